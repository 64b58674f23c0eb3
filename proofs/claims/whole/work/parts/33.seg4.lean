/-! ===== segments: what the program does from a place to the next ===== -/
theorem bX12_ends_0 {d : Nat} {h : HP} {Q : Out → HP → Prop} {v0 : Nat} {u1 : Option Value} (k : WP d mX12_ends 2 [some (.ref v0), some (.int (0 : Int32))] [] h Q) : WP d mX12_ends 0 [some (.ref v0), u1] [] h Q := by
  refine w_iconst dX12_ends_0 i1_0 ?_
  refine w_istore_n (lo' := [some (.ref v0), some (.int (0 : Int32))]) dX12_ends_1 (ltQ rfl) rfl ?_
  exact k
theorem bX12_ends_2 {d : Nat} {h : HP} {Q : Out → HP → Prop} {v0 : Nat} {v1 : Int32} (k : (hK h v0 = 12) ∧ ((((hI h 1247 v0) ≤ v1) → Q (.inl none) h) ∧ ((¬ ((hI h 1247 v0) ≤ v1)) → (hK h (hR h 1241 v0) = 21) ∧ ((inA h (hR h 1241 v0) v1 = true) ∧ ((((hAI h (hR h 1241 v0) (v1).toNatClampNeg) = 0) → WP (d + 1) mX12_ends 2 [some (.ref v0), some (.int (v1 + (1 : Int32)))] [] h Q) ∧ ((¬ ((hAI h (hR h 1241 v0) (v1).toNatClampNeg) = 0)) → (hK h (hR h 1246 v0) = 20) ∧ ((inA h (hR h 1246 v0) v1 = true) ∧ (((¬ (hAI h (hR h 1246 v0) (v1).toNatClampNeg) = (-1 : Int32)) → WP (d + 1) mX12_ends 2 [some (.ref v0), some (.int (v1 + (1 : Int32)))] [] h Q) ∧ ((¬ (¬ (hAI h (hR h 1246 v0) (v1).toNatClampNeg) = (-1 : Int32))) → (1 < v0) ∧ (WP d mX12_isAgreedAt 0 [some (.ref v0), some (.int v1), none, none] [] h (KK d mX12_ends mX12_isAgreedAt 31 [some (.ref v0), some (.int v1)] [] Q))))))))))) : WP (d + 1) mX12_ends 2 [some (.ref v0), some (.int v1)] [] h Q := by
  refine w_iload_n dX12_ends_2 rfl ?_
  refine w_aload_n dX12_ends_3 rfl ?_
  obtain ⟨g1, k⟩ := k
  refine w_getI dX12_ends_4 f_12_170 t_12_47 g1 ?_
  refine w_ic_ge (pc' := 53) dX12_ends_7 rfl rfl ⟨fun c => ?_, fun c => ?_⟩
  · replace k := k.1 c
    exact w_return dX12_ends_53 rfl k
  · replace k := k.2 c
    refine w_aload_n dX12_ends_10 rfl ?_
    refine w_getR dX12_ends_11 f_12_123 t_12_41 g1 ?_
    refine w_iload_n dX12_ends_14 rfl ?_
    obtain ⟨g2, k⟩ := k
    obtain ⟨g3, k⟩ := k
    refine w_baload dX12_ends_15 g2 g3 ?_
    refine w_if_eq (pc' := 47) dX12_ends_16 rfl rfl ⟨fun c => ?_, fun c => ?_⟩
    · replace k := k.1 c
      refine w_iinc (lo' := [some (.ref v0), some (.int (v1 + (1 : Int32)))]) dX12_ends_47 rfl i1_1 rfl ?_
      refine w_goto (pc' := 2) dX12_ends_50 rfl rfl ?_
      exact k
    · replace k := k.2 c
      refine w_aload_n dX12_ends_19 rfl ?_
      refine w_getR dX12_ends_20 f_12_138 t_12_46 g1 ?_
      refine w_iload_n dX12_ends_23 rfl ?_
      obtain ⟨g4, k⟩ := k
      obtain ⟨g5, k⟩ := k
      refine w_iaload dX12_ends_24 g4 g5 ?_
      refine w_iconst dX12_ends_25 i1_m1 ?_
      refine w_ic_ne (pc' := 47) dX12_ends_26 rfl rfl ⟨fun c => ?_, fun c => ?_⟩
      · replace k := k.1 c
        refine w_iinc (lo' := [some (.ref v0), some (.int (v1 + (1 : Int32)))]) dX12_ends_47 rfl i1_1 rfl ?_
        refine w_goto (pc' := 2) dX12_ends_50 rfl rfl ?_
        exact k
      · replace k := k.2 c
        refine w_aload_n dX12_ends_29 rfl ?_
        refine w_iload_n dX12_ends_30 rfl ?_
        obtain ⟨g6, k⟩ := k
        exact w_virt (as1 := [.int v1, .ref v0]) (as2 := [.ref v0, .int v1]) (rest := []) (lo2 := [some (.ref v0), some (.int v1), none, none]) dX12_ends_31 c_12_177 rfl rfl rfl (Nat.le_of_ble_eq_true rfl) (Nat.le_of_ble_eq_true rfl) rfl (Nat.le_of_ble_eq_true rfl) rfl rfl g6 g1 k
theorem bX12_ends_34 {d : Nat} {h : HP} {Q : Out → HP → Prop} {v0 : Nat} {v1 : Int32} {s0 : Int32} (k : ((s0 = 0) → WP d mX12_ends 2 [some (.ref v0), some (.int (v1 + (1 : Int32)))] [] h Q) ∧ ((¬ (s0 = 0)) → (hK h v0 = 12) ∧ ((hK h (hR h 1246 v0) = 20) ∧ ((inA h (hR h 1246 v0) v1 = true) ∧ (WP d mX12_ends 2 [some (.ref v0), some (.int (v1 + (1 : Int32)))] [] (sAI h (hR h 1246 v0) (v1).toNatClampNeg (hI h 1204 v0)) Q))))) : WP d mX12_ends 34 [some (.ref v0), some (.int v1)] [.int s0] h Q := by
  refine w_if_eq (pc' := 47) dX12_ends_34 rfl rfl ⟨fun c => ?_, fun c => ?_⟩
  · replace k := k.1 c
    refine w_iinc (lo' := [some (.ref v0), some (.int (v1 + (1 : Int32)))]) dX12_ends_47 rfl i1_1 rfl ?_
    refine w_goto (pc' := 2) dX12_ends_50 rfl rfl ?_
    exact k
  · replace k := k.2 c
    refine w_aload_n dX12_ends_37 rfl ?_
    obtain ⟨g1, k⟩ := k
    refine w_getR dX12_ends_38 f_12_138 t_12_46 g1 ?_
    refine w_iload_n dX12_ends_41 rfl ?_
    refine w_aload_n dX12_ends_42 rfl ?_
    refine w_getI dX12_ends_43 f_12_164 t_12_4 g1 ?_
    obtain ⟨g2, k⟩ := k
    obtain ⟨g3, k⟩ := k
    refine w_iastore dX12_ends_46 g2 g3 ?_
    refine w_iinc (lo' := [some (.ref v0), some (.int (v1 + (1 : Int32)))]) dX12_ends_47 rfl i1_1 rfl ?_
    refine w_goto (pc' := 2) dX12_ends_50 rfl rfl ?_
    exact k
theorem bX12_isAgreedAt_0 {d : Nat} {h : HP} {Q : Out → HP → Prop} {v0 : Nat} {v1 : Int32} {u2 : Option Value} {u3 : Option Value} (k : WP d mX12_isAgreedAt 2 [some (.ref v0), some (.int v1), some (.int (0 : Int32)), u3] [] h Q) : WP d mX12_isAgreedAt 0 [some (.ref v0), some (.int v1), u2, u3] [] h Q := by
  refine w_iconst dX12_isAgreedAt_0 i1_0 ?_
  refine w_istore_n (lo' := [some (.ref v0), some (.int v1), some (.int (0 : Int32)), u3]) dX12_isAgreedAt_1 (ltQ rfl) rfl ?_
  exact k
theorem bX12_isAgreedAt_2 {d : Nat} {h : HP} {Q : Out → HP → Prop} {v0 : Nat} {v1 : Int32} {v2 : Int32} {u3 : Option Value} (k : (hK h v0 = 12) ∧ ((((hI h 1200 v0) ≤ v2) → Q (.inl (some (.int (0 : Int32)))) h) ∧ ((¬ ((hI h 1200 v0) ≤ v2)) → WP d mX12_isAgreedAt 15 [some (.ref v0), some (.int v1), some (.int v2), some (.int ((30 : Int32) * v2))] [] h Q))) : WP d mX12_isAgreedAt 2 [some (.ref v0), some (.int v1), some (.int v2), u3] [] h Q := by
  refine w_iload_n dX12_isAgreedAt_2 rfl ?_
  refine w_aload_n dX12_isAgreedAt_3 rfl ?_
  obtain ⟨g1, k⟩ := k
  refine w_getI dX12_isAgreedAt_4 f_12_7 t_12_0 g1 ?_
  refine w_ic_ge (pc' := 84) dX12_isAgreedAt_7 rfl rfl ⟨fun c => ?_, fun c => ?_⟩
  · replace k := k.1 c
    refine w_iconst dX12_isAgreedAt_84 i1_0 ?_
    exact w_ireturn dX12_isAgreedAt_85 rfl k
  · replace k := k.2 c
    refine w_bipush dX12_isAgreedAt_10 i2_30 ?_
    refine w_iload_n dX12_isAgreedAt_12 rfl ?_
    refine w_imul dX12_isAgreedAt_13 ?_
    refine w_istore_n (lo' := [some (.ref v0), some (.int v1), some (.int v2), some (.int ((30 : Int32) * v2))]) dX12_isAgreedAt_14 (ltQ rfl) rfl ?_
    exact k
theorem bX12_isAgreedAt_15 {d : Nat} {h : HP} {Q : Out → HP → Prop} {v0 : Nat} {v1 : Int32} {v2 : Int32} {v3 : Int32} (k : (hK h v0 = 12) ∧ ((hK h (hR h 1213 v0) = 20) ∧ ((inA h (hR h 1213 v0) v2 = true) ∧ ((((((30 : Int32) * v2) + (hAI h (hR h 1213 v0) (v2).toNatClampNeg)) ≤ v3) → WP d mX12_isAgreedAt 2 [some (.ref v0), some (.int v1), some (.int (v2 + (1 : Int32))), some (.int v3)] [] h Q) ∧ ((¬ ((((30 : Int32) * v2) + (hAI h (hR h 1213 v0) (v2).toNatClampNeg)) ≤ v3)) → (hK h (hR h 1211 v0) = 20) ∧ ((inA h (hR h 1211 v0) v2 = true) ∧ (((¬ (hAI h (hR h 1211 v0) (v2).toNatClampNeg) = (2 : Int32)) → WP d mX12_isAgreedAt 2 [some (.ref v0), some (.int v1), some (.int (v2 + (1 : Int32))), some (.int v3)] [] h Q) ∧ ((¬ (¬ (hAI h (hR h 1211 v0) (v2).toNatClampNeg) = (2 : Int32))) → (hK h (hR h 1215 v0) = 20) ∧ ((inA h (hR h 1215 v0) v3 = true) ∧ ((hK h (hR h 1242 v0) = 20) ∧ ((inA h (hR h 1242 v0) v1 = true) ∧ (((¬ (hAI h (hR h 1215 v0) (v3).toNatClampNeg) = (hAI h (hR h 1242 v0) (v1).toNatClampNeg)) → WP d mX12_isAgreedAt 15 [some (.ref v0), some (.int v1), some (.int v2), some (.int (v3 + (1 : Int32)))] [] h Q) ∧ ((¬ (¬ (hAI h (hR h 1215 v0) (v3).toNatClampNeg) = (hAI h (hR h 1242 v0) (v1).toNatClampNeg))) → (hK h (hR h 1216 v0) = 20) ∧ ((inA h (hR h 1216 v0) v3 = true) ∧ ((hK h (hR h 1243 v0) = 20) ∧ ((inA h (hR h 1243 v0) v1 = true) ∧ (((¬ (hAI h (hR h 1216 v0) (v3).toNatClampNeg) = (hAI h (hR h 1243 v0) (v1).toNatClampNeg)) → WP d mX12_isAgreedAt 15 [some (.ref v0), some (.int v1), some (.int v2), some (.int (v3 + (1 : Int32)))] [] h Q) ∧ ((¬ (¬ (hAI h (hR h 1216 v0) (v3).toNatClampNeg) = (hAI h (hR h 1243 v0) (v1).toNatClampNeg))) → Q (.inl (some (.int (1 : Int32)))) h)))))))))))))))))) : WP d mX12_isAgreedAt 15 [some (.ref v0), some (.int v1), some (.int v2), some (.int v3)] [] h Q := by
  refine w_iload_n dX12_isAgreedAt_15 rfl ?_
  refine w_bipush dX12_isAgreedAt_16 i2_30 ?_
  refine w_iload_n dX12_isAgreedAt_18 rfl ?_
  refine w_imul dX12_isAgreedAt_19 ?_
  refine w_aload_n dX12_isAgreedAt_20 rfl ?_
  obtain ⟨g1, k⟩ := k
  refine w_getR dX12_isAgreedAt_21 f_12_45 t_12_13 g1 ?_
  refine w_iload_n dX12_isAgreedAt_24 rfl ?_
  obtain ⟨g2, k⟩ := k
  obtain ⟨g3, k⟩ := k
  refine w_iaload dX12_isAgreedAt_25 g2 g3 ?_
  refine w_iadd dX12_isAgreedAt_26 ?_
  refine w_ic_ge (pc' := 78) dX12_isAgreedAt_27 rfl rfl ⟨fun c => ?_, fun c => ?_⟩
  · replace k := k.1 c
    refine w_iinc (lo' := [some (.ref v0), some (.int v1), some (.int (v2 + (1 : Int32))), some (.int v3)]) dX12_isAgreedAt_78 rfl i1_1 rfl ?_
    refine w_goto (pc' := 2) dX12_isAgreedAt_81 rfl rfl ?_
    exact k
  · replace k := k.2 c
    refine w_aload_n dX12_isAgreedAt_30 rfl ?_
    refine w_getR dX12_isAgreedAt_31 f_12_39 t_12_11 g1 ?_
    refine w_iload_n dX12_isAgreedAt_34 rfl ?_
    obtain ⟨g4, k⟩ := k
    obtain ⟨g5, k⟩ := k
    refine w_iaload dX12_isAgreedAt_35 g4 g5 ?_
    refine w_iconst dX12_isAgreedAt_36 i1_2 ?_
    refine w_ic_ne (pc' := 78) dX12_isAgreedAt_37 rfl rfl ⟨fun c => ?_, fun c => ?_⟩
    · replace k := k.1 c
      refine w_iinc (lo' := [some (.ref v0), some (.int v1), some (.int (v2 + (1 : Int32))), some (.int v3)]) dX12_isAgreedAt_78 rfl i1_1 rfl ?_
      refine w_goto (pc' := 2) dX12_isAgreedAt_81 rfl rfl ?_
      exact k
    · replace k := k.2 c
      refine w_aload_n dX12_isAgreedAt_40 rfl ?_
      refine w_getR dX12_isAgreedAt_41 f_12_51 t_12_15 g1 ?_
      refine w_iload_n dX12_isAgreedAt_44 rfl ?_
      obtain ⟨g6, k⟩ := k
      obtain ⟨g7, k⟩ := k
      refine w_iaload dX12_isAgreedAt_45 g6 g7 ?_
      refine w_aload_n dX12_isAgreedAt_46 rfl ?_
      refine w_getR dX12_isAgreedAt_47 f_12_126 t_12_42 g1 ?_
      refine w_iload_n dX12_isAgreedAt_50 rfl ?_
      obtain ⟨g8, k⟩ := k
      obtain ⟨g9, k⟩ := k
      refine w_iaload dX12_isAgreedAt_51 g8 g9 ?_
      refine w_ic_ne (pc' := 72) dX12_isAgreedAt_52 rfl rfl ⟨fun c => ?_, fun c => ?_⟩
      · replace k := k.1 c
        refine w_iinc (lo' := [some (.ref v0), some (.int v1), some (.int v2), some (.int (v3 + (1 : Int32)))]) dX12_isAgreedAt_72 rfl i1_1 rfl ?_
        refine w_goto (pc' := 15) dX12_isAgreedAt_75 rfl rfl ?_
        exact k
      · replace k := k.2 c
        refine w_aload_n dX12_isAgreedAt_55 rfl ?_
        refine w_getR dX12_isAgreedAt_56 f_12_54 t_12_16 g1 ?_
        refine w_iload_n dX12_isAgreedAt_59 rfl ?_
        obtain ⟨g10, k⟩ := k
        obtain ⟨g11, k⟩ := k
        refine w_iaload dX12_isAgreedAt_60 g10 g11 ?_
        refine w_aload_n dX12_isAgreedAt_61 rfl ?_
        refine w_getR dX12_isAgreedAt_62 f_12_129 t_12_43 g1 ?_
        refine w_iload_n dX12_isAgreedAt_65 rfl ?_
        obtain ⟨g12, k⟩ := k
        obtain ⟨g13, k⟩ := k
        refine w_iaload dX12_isAgreedAt_66 g12 g13 ?_
        refine w_ic_ne (pc' := 72) dX12_isAgreedAt_67 rfl rfl ⟨fun c => ?_, fun c => ?_⟩
        · replace k := k.1 c
          refine w_iinc (lo' := [some (.ref v0), some (.int v1), some (.int v2), some (.int (v3 + (1 : Int32)))]) dX12_isAgreedAt_72 rfl i1_1 rfl ?_
          refine w_goto (pc' := 15) dX12_isAgreedAt_75 rfl rfl ?_
          exact k
        · replace k := k.2 c
          refine w_iconst dX12_isAgreedAt_70 i1_1 ?_
          exact w_ireturn dX12_isAgreedAt_71 rfl k
theorem bX12_follows_0 {d : Nat} {h : HP} {Q : Out → HP → Prop} {v0 : Nat} {v1 : Int32} (k : (hK h v0 = 12) ∧ ((hK h (hR h 1211 v0) = 20) ∧ ((inA h (hR h 1211 v0) v1 = true) ∧ ((hK h (hR h 1223 v0) = 21) ∧ ((inA h (hR h 1223 v0) v1 = true) ∧ (Q (.inl none) (sAI (sAI h (hR h 1211 v0) (v1).toNatClampNeg (0 : Int32)) (hR h 1223 v0) (v1).toNatClampNeg (0 : Int32)))))))) : WP d mX12_follows 0 [some (.ref v0), some (.int v1)] [] h Q := by
  refine w_aload_n dX12_follows_0 rfl ?_
  obtain ⟨g1, k⟩ := k
  refine w_getR dX12_follows_1 f_12_39 t_12_11 g1 ?_
  refine w_iload_n dX12_follows_4 rfl ?_
  refine w_iconst dX12_follows_5 i1_0 ?_
  obtain ⟨g2, k⟩ := k
  obtain ⟨g3, k⟩ := k
  refine w_iastore dX12_follows_6 g2 g3 ?_
  refine w_aload_n dX12_follows_7 rfl ?_
  refine w_getR dX12_follows_8 f_12_75 t_12_23 g1 ?_
  refine w_iload_n dX12_follows_11 rfl ?_
  refine w_iconst dX12_follows_12 i1_0 ?_
  obtain ⟨g4, k⟩ := k
  obtain ⟨g5, k⟩ := k
  refine w_bastore dX12_follows_13 g4 g5 rfl ?_
  exact w_return dX12_follows_14 rfl k
theorem bX12_toggle_0 {d : Nat} {h : HP} {Q : Out → HP → Prop} {v0 : Nat} {v1 : Int32} {u2 : Option Value} (k : (1 < v0) ∧ ((hK h v0 = 12) ∧ (WP d mX12_isMachine 0 [some (.ref v0), some (.int v1)] [] h (KK d mX12_toggle mX12_isMachine 3 [some (.ref v0), some (.int v1), u2] [.ref v0] Q)))) : WP (d + 1) mX12_toggle 0 [some (.ref v0), some (.int v1), u2] [] h Q := by
  refine w_aload_n dX12_toggle_0 rfl ?_
  refine w_aload_n dX12_toggle_1 rfl ?_
  refine w_iload_n dX12_toggle_2 rfl ?_
  obtain ⟨g1, k⟩ := k
  obtain ⟨g2, k⟩ := k
  exact w_virt (as1 := [.int v1, .ref v0]) (as2 := [.ref v0, .int v1]) (rest := [.ref v0]) (lo2 := [some (.ref v0), some (.int v1)]) dX12_toggle_3 c_12_181 rfl rfl rfl (Nat.le_of_ble_eq_true rfl) (Nat.le_of_ble_eq_true rfl) rfl (Nat.le_of_ble_eq_true rfl) rfl rfl g1 g2 k
theorem bX12_toggle_6 {d : Nat} {h : HP} {Q : Out → HP → Prop} {v0 : Nat} {v1 : Int32} {u2 : Option Value} {s0 : Int32} {s1 : Nat} (k : (1 < s1) ∧ ((hK h s1 = 12) ∧ (WP d mX12_goes 0 [some (.ref s1), some (.int s0), some (.int (1 : Int32)), some (.int (1 : Int32))] [] h (KK d mX12_toggle mX12_goes 8 [some (.ref v0), some (.int v1), u2] [] Q)))) : WP (d + 1) mX12_toggle 6 [some (.ref v0), some (.int v1), u2] [.int s0, .ref s1] h Q := by
  refine w_iconst dX12_toggle_6 i1_1 ?_
  refine w_iconst dX12_toggle_7 i1_1 ?_
  obtain ⟨g1, k⟩ := k
  obtain ⟨g2, k⟩ := k
  exact w_virt (as1 := [.int (1 : Int32), .int (1 : Int32), .int s0, .ref s1]) (as2 := [.ref s1, .int s0, .int (1 : Int32), .int (1 : Int32)]) (rest := []) (lo2 := [some (.ref s1), some (.int s0), some (.int (1 : Int32)), some (.int (1 : Int32))]) dX12_toggle_8 c_12_173 rfl rfl rfl (Nat.le_of_ble_eq_true rfl) (Nat.le_of_ble_eq_true rfl) rfl (Nat.le_of_ble_eq_true rfl) rfl rfl g1 g2 k
theorem bX12_toggle_11 {d : Nat} {h : HP} {Q : Out → HP → Prop} {v0 : Nat} {v1 : Int32} {u2 : Option Value} {s0 : Int32} (k : ((¬ s0 = 0) → (hK h v0 = 12) ∧ ((hK h (hR h 1205 v0) = 21) ∧ ((inA h (hR h 1205 v0) v1 = true) ∧ (((¬ (hAI h (hR h 1205 v0) (v1).toNatClampNeg) = 0) → (((hAI (sAI (sI h 1204 v0 ((hI h 1204 v0) + (1 : Int32))) (hR h 1205 v0) (v1).toNatClampNeg (0 : Int32)) (hR h 1205 v0) (v1).toNatClampNeg) = 0) → (1 < v0) ∧ (WP d mX12_follows 0 [some (.ref v0), some (.int v1)] [] (sAI (sI h 1204 v0 ((hI h 1204 v0) + (1 : Int32))) (hR h 1205 v0) (v1).toNatClampNeg (0 : Int32)) (KK d mX12_toggle mX12_follows 84 [some (.ref v0), some (.int v1), u2] [] Q))) ∧ ((¬ ((hAI (sAI (sI h 1204 v0 ((hI h 1204 v0) + (1 : Int32))) (hR h 1205 v0) (v1).toNatClampNeg (0 : Int32)) (hR h 1205 v0) (v1).toNatClampNeg) = 0)) → (hK h (hR h 1225 v0) = 20) ∧ ((inA h (hR h 1225 v0) v1 = true) ∧ ((hK h (hR h 1207 v0) = 22) ∧ ((inA h (hR h 1207 v0) v1 = true) ∧ ((nn32 (FP.fadd (hAF h (hR h 1207 v0) (v1).toNatClampNeg) (hF h 1202 v0)) = true) ∧ ((hK h (hR h 1226 v0) = 22) ∧ ((inA h (hR h 1226 v0) v1 = true) ∧ ((1 < v0) ∧ (WP d mX12_ends 0 [some (.ref v0), none] [] (sAF (sAI (sAI (sI h 1204 v0 ((hI h 1204 v0) + (1 : Int32))) (hR h 1205 v0) (v1).toNatClampNeg (0 : Int32)) (hR h 1225 v0) (v1).toNatClampNeg v1) (hR h 1226 v0) (v1).toNatClampNeg (FP.fadd (hAF h (hR h 1207 v0) (v1).toNatClampNeg) (hF h 1202 v0))) (KK d mX12_toggle mX12_ends 121 [some (.ref v0), some (.int v1), u2] [] Q))))))))))) ∧ ((¬ (¬ (hAI h (hR h 1205 v0) (v1).toNatClampNeg) = 0)) → (((hAI (sAI (sI h 1204 v0 ((hI h 1204 v0) + (1 : Int32))) (hR h 1205 v0) (v1).toNatClampNeg (1 : Int32)) (hR h 1205 v0) (v1).toNatClampNeg) = 0) → (1 < v0) ∧ (WP d mX12_follows 0 [some (.ref v0), some (.int v1)] [] (sAI (sI h 1204 v0 ((hI h 1204 v0) + (1 : Int32))) (hR h 1205 v0) (v1).toNatClampNeg (1 : Int32)) (KK d mX12_toggle mX12_follows 84 [some (.ref v0), some (.int v1), u2] [] Q))) ∧ ((¬ ((hAI (sAI (sI h 1204 v0 ((hI h 1204 v0) + (1 : Int32))) (hR h 1205 v0) (v1).toNatClampNeg (1 : Int32)) (hR h 1205 v0) (v1).toNatClampNeg) = 0)) → (hK h (hR h 1225 v0) = 20) ∧ ((inA h (hR h 1225 v0) v1 = true) ∧ ((hK h (hR h 1207 v0) = 22) ∧ ((inA h (hR h 1207 v0) v1 = true) ∧ ((nn32 (FP.fadd (hAF h (hR h 1207 v0) (v1).toNatClampNeg) (hF h 1202 v0)) = true) ∧ ((hK h (hR h 1226 v0) = 22) ∧ ((inA h (hR h 1226 v0) v1 = true) ∧ ((1 < v0) ∧ (WP d mX12_ends 0 [some (.ref v0), none] [] (sAF (sAI (sAI (sI h 1204 v0 ((hI h 1204 v0) + (1 : Int32))) (hR h 1205 v0) (v1).toNatClampNeg (1 : Int32)) (hR h 1225 v0) (v1).toNatClampNeg v1) (hR h 1226 v0) (v1).toNatClampNeg (FP.fadd (hAF h (hR h 1207 v0) (v1).toNatClampNeg) (hF h 1202 v0))) (KK d mX12_toggle mX12_ends 121 [some (.ref v0), some (.int v1), u2] [] Q))))))))))))))) ∧ ((¬ (¬ s0 = 0)) → Q (.inl (some (.int (0 : Int32)))) h)) : WP (d + 1) mX12_toggle 11 [some (.ref v0), some (.int v1), u2] [.int s0] h Q := by
  refine w_if_ne (pc' := 16) dX12_toggle_11 rfl rfl ⟨fun c => ?_, fun c => ?_⟩
  · replace k := k.1 c
    refine w_aload_n dX12_toggle_16 rfl ?_
    refine w_dup dX12_toggle_17 rfl ?_
    obtain ⟨g1, k⟩ := k
    refine w_getI dX12_toggle_18 f_12_164 t_12_4 g1 ?_
    refine w_iconst dX12_toggle_21 i1_1 ?_
    refine w_iadd dX12_toggle_22 ?_
    refine w_putI dX12_toggle_23 f_12_164 t_12_4 (pf_nf n_12_4) g1 ?_
    refine w_aload_n dX12_toggle_26 rfl ?_
    refine w_getR dX12_toggle_27 f_12_18 t_12_5 g1 ?_
    refine w_iload_n dX12_toggle_30 rfl ?_
    refine w_aload_n dX12_toggle_31 rfl ?_
    refine w_getR dX12_toggle_32 f_12_18 t_12_5 g1 ?_
    refine w_iload_n dX12_toggle_35 rfl ?_
    obtain ⟨g2, k⟩ := k
    obtain ⟨g3, k⟩ := k
    refine w_baload dX12_toggle_36 g2 g3 ?_
    refine w_if_ne (pc' := 44) dX12_toggle_37 rfl rfl ⟨fun c => ?_, fun c => ?_⟩
    · replace k := k.1 c
      refine w_iconst dX12_toggle_44 i1_0 ?_
      refine w_bastore dX12_toggle_45 g2 g3 rfl ?_
      refine w_aload_n dX12_toggle_46 rfl ?_
      refine w_getR dX12_toggle_47 f_12_18 t_12_5 g1 ?_
      refine w_iload_n dX12_toggle_50 rfl ?_
      refine w_baload dX12_toggle_51 g2 g3 ?_
      refine w_if_eq (pc' := 82) dX12_toggle_52 rfl rfl ⟨fun c => ?_, fun c => ?_⟩
      · replace k := k.1 c
        refine w_aload_n dX12_toggle_82 rfl ?_
        refine w_iload_n dX12_toggle_83 rfl ?_
        obtain ⟨g4, k⟩ := k
        exact w_virt (as1 := [.int v1, .ref v0]) (as2 := [.ref v0, .int v1]) (rest := []) (lo2 := [some (.ref v0), some (.int v1)]) dX12_toggle_84 c_12_184 rfl rfl rfl (Nat.le_of_ble_eq_true rfl) (Nat.le_of_ble_eq_true rfl) rfl (Nat.le_of_ble_eq_true rfl) rfl rfl g4 g1 k
      · replace k := k.2 c
        refine w_aload_n dX12_toggle_55 rfl ?_
        refine w_getR dX12_toggle_56 f_12_81 t_12_25 g1 ?_
        refine w_iload_n dX12_toggle_59 rfl ?_
        refine w_iload_n dX12_toggle_60 rfl ?_
        obtain ⟨g5, k⟩ := k
        obtain ⟨g6, k⟩ := k
        refine w_iastore dX12_toggle_61 g5 g6 ?_
        refine w_aload_n dX12_toggle_62 rfl ?_
        refine w_getR dX12_toggle_63 f_12_84 t_12_26 g1 ?_
        refine w_iload_n dX12_toggle_66 rfl ?_
        refine w_aload_n dX12_toggle_67 rfl ?_
        refine w_getR dX12_toggle_68 f_12_25 t_12_7 g1 ?_
        refine w_iload_n dX12_toggle_71 rfl ?_
        obtain ⟨g7, k⟩ := k
        obtain ⟨g8, k⟩ := k
        refine w_faload dX12_toggle_72 g7 g8 ?_
        refine w_aload_n dX12_toggle_73 rfl ?_
        refine w_getF dX12_toggle_74 f_12_14 t_12_2 g1 ?_
        obtain ⟨g9, k⟩ := k
        refine w_fadd dX12_toggle_77 g9 ?_
        obtain ⟨g10, k⟩ := k
        obtain ⟨g11, k⟩ := k
        refine w_fastore dX12_toggle_78 g10 g11 ?_
        refine w_goto (pc' := 120) dX12_toggle_79 rfl rfl ?_
        refine w_aload_n dX12_toggle_120 rfl ?_
        obtain ⟨g12, k⟩ := k
        exact w_virt (as1 := [.ref v0]) (as2 := [.ref v0]) (rest := []) (lo2 := [some (.ref v0), none]) dX12_toggle_121 c_12_187 rfl rfl rfl (Nat.le_of_ble_eq_true rfl) (Nat.le_of_ble_eq_true rfl) rfl (Nat.le_of_ble_eq_true rfl) rfl rfl g12 g1 k
    · replace k := k.2 c
      refine w_iconst dX12_toggle_40 i1_1 ?_
      refine w_goto (pc' := 45) dX12_toggle_41 rfl rfl ?_
      refine w_bastore dX12_toggle_45 g2 g3 rfl ?_
      refine w_aload_n dX12_toggle_46 rfl ?_
      refine w_getR dX12_toggle_47 f_12_18 t_12_5 g1 ?_
      refine w_iload_n dX12_toggle_50 rfl ?_
      refine w_baload dX12_toggle_51 g2 g3 ?_
      refine w_if_eq (pc' := 82) dX12_toggle_52 rfl rfl ⟨fun c => ?_, fun c => ?_⟩
      · replace k := k.1 c
        refine w_aload_n dX12_toggle_82 rfl ?_
        refine w_iload_n dX12_toggle_83 rfl ?_
        obtain ⟨g13, k⟩ := k
        exact w_virt (as1 := [.int v1, .ref v0]) (as2 := [.ref v0, .int v1]) (rest := []) (lo2 := [some (.ref v0), some (.int v1)]) dX12_toggle_84 c_12_184 rfl rfl rfl (Nat.le_of_ble_eq_true rfl) (Nat.le_of_ble_eq_true rfl) rfl (Nat.le_of_ble_eq_true rfl) rfl rfl g13 g1 k
      · replace k := k.2 c
        refine w_aload_n dX12_toggle_55 rfl ?_
        refine w_getR dX12_toggle_56 f_12_81 t_12_25 g1 ?_
        refine w_iload_n dX12_toggle_59 rfl ?_
        refine w_iload_n dX12_toggle_60 rfl ?_
        obtain ⟨g14, k⟩ := k
        obtain ⟨g15, k⟩ := k
        refine w_iastore dX12_toggle_61 g14 g15 ?_
        refine w_aload_n dX12_toggle_62 rfl ?_
        refine w_getR dX12_toggle_63 f_12_84 t_12_26 g1 ?_
        refine w_iload_n dX12_toggle_66 rfl ?_
        refine w_aload_n dX12_toggle_67 rfl ?_
        refine w_getR dX12_toggle_68 f_12_25 t_12_7 g1 ?_
        refine w_iload_n dX12_toggle_71 rfl ?_
        obtain ⟨g16, k⟩ := k
        obtain ⟨g17, k⟩ := k
        refine w_faload dX12_toggle_72 g16 g17 ?_
        refine w_aload_n dX12_toggle_73 rfl ?_
        refine w_getF dX12_toggle_74 f_12_14 t_12_2 g1 ?_
        obtain ⟨g18, k⟩ := k
        refine w_fadd dX12_toggle_77 g18 ?_
        obtain ⟨g19, k⟩ := k
        obtain ⟨g20, k⟩ := k
        refine w_fastore dX12_toggle_78 g19 g20 ?_
        refine w_goto (pc' := 120) dX12_toggle_79 rfl rfl ?_
        refine w_aload_n dX12_toggle_120 rfl ?_
        obtain ⟨g21, k⟩ := k
        exact w_virt (as1 := [.ref v0]) (as2 := [.ref v0]) (rest := []) (lo2 := [some (.ref v0), none]) dX12_toggle_121 c_12_187 rfl rfl rfl (Nat.le_of_ble_eq_true rfl) (Nat.le_of_ble_eq_true rfl) rfl (Nat.le_of_ble_eq_true rfl) rfl rfl g21 g1 k
  · replace k := k.2 c
    refine w_iconst dX12_toggle_14 i1_0 ?_
    exact w_ireturn dX12_toggle_15 rfl k
theorem bX12_toggle_87 {d : Nat} {h : HP} {Q : Out → HP → Prop} {v0 : Nat} {v1 : Int32} {u2 : Option Value} (k : (hK h v0 = 12) ∧ ((hK h (hR h 1213 v0) = 20) ∧ ((inA h (hR h 1213 v0) v1 = true) ∧ (WP d mX12_toggle 98 [some (.ref v0), some (.int v1), some (.int ((4 : Int32) * v1))] [] (sAI h (hR h 1213 v0) (v1).toNatClampNeg (0 : Int32)) Q)))) : WP d mX12_toggle 87 [some (.ref v0), some (.int v1), u2] [] h Q := by
  refine w_aload_n dX12_toggle_87 rfl ?_
  obtain ⟨g1, k⟩ := k
  refine w_getR dX12_toggle_88 f_12_45 t_12_13 g1 ?_
  refine w_iload_n dX12_toggle_91 rfl ?_
  refine w_iconst dX12_toggle_92 i1_0 ?_
  obtain ⟨g2, k⟩ := k
  obtain ⟨g3, k⟩ := k
  refine w_iastore dX12_toggle_93 g2 g3 ?_
  refine w_iconst dX12_toggle_94 i1_4 ?_
  refine w_iload_n dX12_toggle_95 rfl ?_
  refine w_imul dX12_toggle_96 ?_
  refine w_istore_n (lo' := [some (.ref v0), some (.int v1), some (.int ((4 : Int32) * v1))]) dX12_toggle_97 (ltQ rfl) rfl ?_
  exact k
theorem bX12_toggle_98 {d : Nat} {h : HP} {Q : Out → HP → Prop} {v0 : Nat} {v1 : Int32} {v2 : Int32} (k : (((((4 : Int32) * v1) + (4 : Int32)) ≤ v2) → (1 < v0) ∧ ((hK h v0 = 12) ∧ (WP d mX12_ends 0 [some (.ref v0), none] [] h (KK d mX12_toggle mX12_ends 121 [some (.ref v0), some (.int v1), some (.int v2)] [] Q)))) ∧ ((¬ ((((4 : Int32) * v1) + (4 : Int32)) ≤ v2)) → (hK h v0 = 12) ∧ ((hK h (hR h 1231 v0) = 20) ∧ ((inA h (hR h 1231 v0) v2 = true) ∧ (WP (d + 1) mX12_toggle 98 [some (.ref v0), some (.int v1), some (.int (v2 + (1 : Int32)))] [] (sAI h (hR h 1231 v0) (v2).toNatClampNeg (-1 : Int32)) Q))))) : WP (d + 1) mX12_toggle 98 [some (.ref v0), some (.int v1), some (.int v2)] [] h Q := by
  refine w_iload_n dX12_toggle_98 rfl ?_
  refine w_iconst dX12_toggle_99 i1_4 ?_
  refine w_iload_n dX12_toggle_100 rfl ?_
  refine w_imul dX12_toggle_101 ?_
  refine w_iconst dX12_toggle_102 i1_4 ?_
  refine w_iadd dX12_toggle_103 ?_
  refine w_ic_ge (pc' := 120) dX12_toggle_104 rfl rfl ⟨fun c => ?_, fun c => ?_⟩
  · replace k := k.1 c
    refine w_aload_n dX12_toggle_120 rfl ?_
    obtain ⟨g1, k⟩ := k
    obtain ⟨g2, k⟩ := k
    exact w_virt (as1 := [.ref v0]) (as2 := [.ref v0]) (rest := []) (lo2 := [some (.ref v0), none]) dX12_toggle_121 c_12_187 rfl rfl rfl (Nat.le_of_ble_eq_true rfl) (Nat.le_of_ble_eq_true rfl) rfl (Nat.le_of_ble_eq_true rfl) rfl rfl g1 g2 k
  · replace k := k.2 c
    refine w_aload_n dX12_toggle_107 rfl ?_
    obtain ⟨g3, k⟩ := k
    refine w_getR dX12_toggle_108 f_12_99 t_12_31 g3 ?_
    refine w_iload_n dX12_toggle_111 rfl ?_
    refine w_iconst dX12_toggle_112 i1_m1 ?_
    obtain ⟨g4, k⟩ := k
    obtain ⟨g5, k⟩ := k
    refine w_iastore dX12_toggle_113 g4 g5 ?_
    refine w_iinc (lo' := [some (.ref v0), some (.int v1), some (.int (v2 + (1 : Int32)))]) dX12_toggle_114 rfl i1_1 rfl ?_
    refine w_goto (pc' := 98) dX12_toggle_117 rfl rfl ?_
    exact k
theorem bX12_toggle_124 {d : Nat} {h : HP} {Q : Out → HP → Prop} {v0 : Nat} {v1 : Int32} {u2 : Option Value} (k : (hK h v0 = 12) ∧ ((hK h (hR h 1205 v0) = 21) ∧ ((inA h (hR h 1205 v0) v1 = true) ∧ ((isZ (hAI h (hR h 1205 v0) (v1).toNatClampNeg) = true) ∧ (Q (.inl (some (.int (hAI h (hR h 1205 v0) (v1).toNatClampNeg)))) h))))) : WP d mX12_toggle 124 [some (.ref v0), some (.int v1), u2] [] h Q := by
  refine w_aload_n dX12_toggle_124 rfl ?_
  obtain ⟨g1, k⟩ := k
  refine w_getR dX12_toggle_125 f_12_18 t_12_5 g1 ?_
  refine w_iload_n dX12_toggle_128 rfl ?_
  obtain ⟨g2, k⟩ := k
  obtain ⟨g3, k⟩ := k
  refine w_baload dX12_toggle_129 g2 g3 ?_
  obtain ⟨g4, k⟩ := k
  exact w_ireturn dX12_toggle_130 g4 k
theorem bX12_cut_0 {d : Nat} {h : HP} {Q : Out → HP → Prop} {v0 : Nat} {v1 : Int32} {v2 : Int32} (k : (1 < v0) ∧ ((hK h v0 = 12) ∧ (WP d mX12_isMachine 0 [some (.ref v0), some (.int v1)] [] h (KK d mX12_cut mX12_isMachine 3 [some (.ref v0), some (.int v1), some (.int v2)] [.ref v0] Q)))) : WP (d + 1) mX12_cut 0 [some (.ref v0), some (.int v1), some (.int v2)] [] h Q := by
  refine w_aload_n dX12_cut_0 rfl ?_
  refine w_aload_n dX12_cut_1 rfl ?_
  refine w_iload_n dX12_cut_2 rfl ?_
  obtain ⟨g1, k⟩ := k
  obtain ⟨g2, k⟩ := k
  exact w_virt (as1 := [.int v1, .ref v0]) (as2 := [.ref v0, .int v1]) (rest := [.ref v0]) (lo2 := [some (.ref v0), some (.int v1)]) dX12_cut_3 c_12_181 rfl rfl rfl (Nat.le_of_ble_eq_true rfl) (Nat.le_of_ble_eq_true rfl) rfl (Nat.le_of_ble_eq_true rfl) rfl rfl g1 g2 k
theorem bX12_cut_6 {d : Nat} {h : HP} {Q : Out → HP → Prop} {v0 : Nat} {v1 : Int32} {v2 : Int32} {s0 : Int32} {s1 : Nat} (k : ((s0 = 0) → ((v1 = v2) → (1 < s1) ∧ ((hK h s1 = 12) ∧ (WP d mX12_goes 0 [some (.ref s1), some (.int (0 : Int32)), some (.int (0 : Int32)), some (.int (1 : Int32))] [] h (KK d mX12_cut mX12_goes 33 [some (.ref v0), some (.int v1), some (.int v2)] [] Q)))) ∧ ((¬ (v1 = v2)) → (1 < s1) ∧ ((hK h s1 = 12) ∧ (WP d mX12_goes 0 [some (.ref s1), some (.int (0 : Int32)), some (.int (1 : Int32)), some (.int (1 : Int32))] [] h (KK d mX12_cut mX12_goes 33 [some (.ref v0), some (.int v1), some (.int v2)] [] Q))))) ∧ ((¬ (s0 = 0)) → (1 < v0) ∧ ((hK h v0 = 12) ∧ (WP d mX12_isMachine 0 [some (.ref v0), some (.int v2)] [] h (KK d mX12_cut mX12_isMachine 11 [some (.ref v0), some (.int v1), some (.int v2)] [.ref s1] Q))))) : WP (d + 1) mX12_cut 6 [some (.ref v0), some (.int v1), some (.int v2)] [.int s0, .ref s1] h Q := by
  refine w_if_eq (pc' := 21) dX12_cut_6 rfl rfl ⟨fun c => ?_, fun c => ?_⟩
  · replace k := k.1 c
    refine w_iconst dX12_cut_21 i1_0 ?_
    refine w_iload_n dX12_cut_22 rfl ?_
    refine w_iload_n dX12_cut_23 rfl ?_
    refine w_ic_eq (pc' := 31) dX12_cut_24 rfl rfl ⟨fun c => ?_, fun c => ?_⟩
    · replace k := k.1 c
      refine w_iconst dX12_cut_31 i1_0 ?_
      refine w_iconst dX12_cut_32 i1_1 ?_
      obtain ⟨g1, k⟩ := k
      obtain ⟨g2, k⟩ := k
      exact w_virt (as1 := [.int (1 : Int32), .int (0 : Int32), .int (0 : Int32), .ref s1]) (as2 := [.ref s1, .int (0 : Int32), .int (0 : Int32), .int (1 : Int32)]) (rest := []) (lo2 := [some (.ref s1), some (.int (0 : Int32)), some (.int (0 : Int32)), some (.int (1 : Int32))]) dX12_cut_33 c_12_173 rfl rfl rfl (Nat.le_of_ble_eq_true rfl) (Nat.le_of_ble_eq_true rfl) rfl (Nat.le_of_ble_eq_true rfl) rfl rfl g1 g2 k
    · replace k := k.2 c
      refine w_iconst dX12_cut_27 i1_1 ?_
      refine w_goto (pc' := 32) dX12_cut_28 rfl rfl ?_
      refine w_iconst dX12_cut_32 i1_1 ?_
      obtain ⟨g3, k⟩ := k
      obtain ⟨g4, k⟩ := k
      exact w_virt (as1 := [.int (1 : Int32), .int (1 : Int32), .int (0 : Int32), .ref s1]) (as2 := [.ref s1, .int (0 : Int32), .int (1 : Int32), .int (1 : Int32)]) (rest := []) (lo2 := [some (.ref s1), some (.int (0 : Int32)), some (.int (1 : Int32)), some (.int (1 : Int32))]) dX12_cut_33 c_12_173 rfl rfl rfl (Nat.le_of_ble_eq_true rfl) (Nat.le_of_ble_eq_true rfl) rfl (Nat.le_of_ble_eq_true rfl) rfl rfl g3 g4 k
  · replace k := k.2 c
    refine w_aload_n dX12_cut_9 rfl ?_
    refine w_iload_n dX12_cut_10 rfl ?_
    obtain ⟨g5, k⟩ := k
    obtain ⟨g6, k⟩ := k
    exact w_virt (as1 := [.int v2, .ref v0]) (as2 := [.ref v0, .int v2]) (rest := [.ref s1]) (lo2 := [some (.ref v0), some (.int v2)]) dX12_cut_11 c_12_181 rfl rfl rfl (Nat.le_of_ble_eq_true rfl) (Nat.le_of_ble_eq_true rfl) rfl (Nat.le_of_ble_eq_true rfl) rfl rfl g5 g6 k
theorem bX12_cut_14 {d : Nat} {h : HP} {Q : Out → HP → Prop} {v0 : Nat} {v1 : Int32} {v2 : Int32} {s0 : Int32} {s1 : Nat} (k : ((s0 = 0) → ((v1 = v2) → (1 < s1) ∧ ((hK h s1 = 12) ∧ (WP d mX12_goes 0 [some (.ref s1), some (.int (0 : Int32)), some (.int (0 : Int32)), some (.int (1 : Int32))] [] h (KK d mX12_cut mX12_goes 33 [some (.ref v0), some (.int v1), some (.int v2)] [] Q)))) ∧ ((¬ (v1 = v2)) → (1 < s1) ∧ ((hK h s1 = 12) ∧ (WP d mX12_goes 0 [some (.ref s1), some (.int (0 : Int32)), some (.int (1 : Int32)), some (.int (1 : Int32))] [] h (KK d mX12_cut mX12_goes 33 [some (.ref v0), some (.int v1), some (.int v2)] [] Q))))) ∧ ((¬ (s0 = 0)) → ((v1 = v2) → (1 < s1) ∧ ((hK h s1 = 12) ∧ (WP d mX12_goes 0 [some (.ref s1), some (.int (1 : Int32)), some (.int (0 : Int32)), some (.int (1 : Int32))] [] h (KK d mX12_cut mX12_goes 33 [some (.ref v0), some (.int v1), some (.int v2)] [] Q)))) ∧ ((¬ (v1 = v2)) → (1 < s1) ∧ ((hK h s1 = 12) ∧ (WP d mX12_goes 0 [some (.ref s1), some (.int (1 : Int32)), some (.int (1 : Int32)), some (.int (1 : Int32))] [] h (KK d mX12_cut mX12_goes 33 [some (.ref v0), some (.int v1), some (.int v2)] [] Q)))))) : WP (d + 1) mX12_cut 14 [some (.ref v0), some (.int v1), some (.int v2)] [.int s0, .ref s1] h Q := by
  refine w_if_eq (pc' := 21) dX12_cut_14 rfl rfl ⟨fun c => ?_, fun c => ?_⟩
  · replace k := k.1 c
    refine w_iconst dX12_cut_21 i1_0 ?_
    refine w_iload_n dX12_cut_22 rfl ?_
    refine w_iload_n dX12_cut_23 rfl ?_
    refine w_ic_eq (pc' := 31) dX12_cut_24 rfl rfl ⟨fun c => ?_, fun c => ?_⟩
    · replace k := k.1 c
      refine w_iconst dX12_cut_31 i1_0 ?_
      refine w_iconst dX12_cut_32 i1_1 ?_
      obtain ⟨g1, k⟩ := k
      obtain ⟨g2, k⟩ := k
      exact w_virt (as1 := [.int (1 : Int32), .int (0 : Int32), .int (0 : Int32), .ref s1]) (as2 := [.ref s1, .int (0 : Int32), .int (0 : Int32), .int (1 : Int32)]) (rest := []) (lo2 := [some (.ref s1), some (.int (0 : Int32)), some (.int (0 : Int32)), some (.int (1 : Int32))]) dX12_cut_33 c_12_173 rfl rfl rfl (Nat.le_of_ble_eq_true rfl) (Nat.le_of_ble_eq_true rfl) rfl (Nat.le_of_ble_eq_true rfl) rfl rfl g1 g2 k
    · replace k := k.2 c
      refine w_iconst dX12_cut_27 i1_1 ?_
      refine w_goto (pc' := 32) dX12_cut_28 rfl rfl ?_
      refine w_iconst dX12_cut_32 i1_1 ?_
      obtain ⟨g3, k⟩ := k
      obtain ⟨g4, k⟩ := k
      exact w_virt (as1 := [.int (1 : Int32), .int (1 : Int32), .int (0 : Int32), .ref s1]) (as2 := [.ref s1, .int (0 : Int32), .int (1 : Int32), .int (1 : Int32)]) (rest := []) (lo2 := [some (.ref s1), some (.int (0 : Int32)), some (.int (1 : Int32)), some (.int (1 : Int32))]) dX12_cut_33 c_12_173 rfl rfl rfl (Nat.le_of_ble_eq_true rfl) (Nat.le_of_ble_eq_true rfl) rfl (Nat.le_of_ble_eq_true rfl) rfl rfl g3 g4 k
  · replace k := k.2 c
    refine w_iconst dX12_cut_17 i1_1 ?_
    refine w_goto (pc' := 22) dX12_cut_18 rfl rfl ?_
    refine w_iload_n dX12_cut_22 rfl ?_
    refine w_iload_n dX12_cut_23 rfl ?_
    refine w_ic_eq (pc' := 31) dX12_cut_24 rfl rfl ⟨fun c => ?_, fun c => ?_⟩
    · replace k := k.1 c
      refine w_iconst dX12_cut_31 i1_0 ?_
      refine w_iconst dX12_cut_32 i1_1 ?_
      obtain ⟨g5, k⟩ := k
      obtain ⟨g6, k⟩ := k
      exact w_virt (as1 := [.int (1 : Int32), .int (0 : Int32), .int (1 : Int32), .ref s1]) (as2 := [.ref s1, .int (1 : Int32), .int (0 : Int32), .int (1 : Int32)]) (rest := []) (lo2 := [some (.ref s1), some (.int (1 : Int32)), some (.int (0 : Int32)), some (.int (1 : Int32))]) dX12_cut_33 c_12_173 rfl rfl rfl (Nat.le_of_ble_eq_true rfl) (Nat.le_of_ble_eq_true rfl) rfl (Nat.le_of_ble_eq_true rfl) rfl rfl g5 g6 k
    · replace k := k.2 c
      refine w_iconst dX12_cut_27 i1_1 ?_
      refine w_goto (pc' := 32) dX12_cut_28 rfl rfl ?_
      refine w_iconst dX12_cut_32 i1_1 ?_
      obtain ⟨g7, k⟩ := k
      obtain ⟨g8, k⟩ := k
      exact w_virt (as1 := [.int (1 : Int32), .int (1 : Int32), .int (1 : Int32), .ref s1]) (as2 := [.ref s1, .int (1 : Int32), .int (1 : Int32), .int (1 : Int32)]) (rest := []) (lo2 := [some (.ref s1), some (.int (1 : Int32)), some (.int (1 : Int32)), some (.int (1 : Int32))]) dX12_cut_33 c_12_173 rfl rfl rfl (Nat.le_of_ble_eq_true rfl) (Nat.le_of_ble_eq_true rfl) rfl (Nat.le_of_ble_eq_true rfl) rfl rfl g7 g8 k
theorem bX12_cut_36 {d : Nat} {h : HP} {Q : Out → HP → Prop} {v0 : Nat} {v1 : Int32} {v2 : Int32} {s0 : Int32} (k : ((¬ s0 = 0) → (hK h v0 = 12) ∧ ((hK h (hR h 1206 v0) = 21) ∧ ((inA h (hR h 1206 v0) (((5 : Int32) * v1) + v2) = true) ∧ (((¬ (hAI h (hR h 1206 v0) ((((5 : Int32) * v1) + v2)).toNatClampNeg) = 0) → (inA h (hR h 1206 v0) (((5 : Int32) * v2) + v1) = true) ∧ ((isZ (hAI (sAI (sI h 1204 v0 ((hI h 1204 v0) + (1 : Int32))) (hR h 1206 v0) ((((5 : Int32) * v1) + v2)).toNatClampNeg (0 : Int32)) (hR h 1206 v0) ((((5 : Int32) * v1) + v2)).toNatClampNeg) = true) ∧ (WP d mX12_cut 109 [some (.ref v0), some (.int v1), some (.int v2)] [.int (hAI (sAI (sAI (sI h 1204 v0 ((hI h 1204 v0) + (1 : Int32))) (hR h 1206 v0) ((((5 : Int32) * v1) + v2)).toNatClampNeg (0 : Int32)) (hR h 1206 v0) ((((5 : Int32) * v2) + v1)).toNatClampNeg (hAI (sAI (sI h 1204 v0 ((hI h 1204 v0) + (1 : Int32))) (hR h 1206 v0) ((((5 : Int32) * v1) + v2)).toNatClampNeg (0 : Int32)) (hR h 1206 v0) ((((5 : Int32) * v1) + v2)).toNatClampNeg)) (hR h 1206 v0) ((((5 : Int32) * v1) + v2)).toNatClampNeg)] (sAI (sAI (sI h 1204 v0 ((hI h 1204 v0) + (1 : Int32))) (hR h 1206 v0) ((((5 : Int32) * v1) + v2)).toNatClampNeg (0 : Int32)) (hR h 1206 v0) ((((5 : Int32) * v2) + v1)).toNatClampNeg (hAI (sAI (sI h 1204 v0 ((hI h 1204 v0) + (1 : Int32))) (hR h 1206 v0) ((((5 : Int32) * v1) + v2)).toNatClampNeg (0 : Int32)) (hR h 1206 v0) ((((5 : Int32) * v1) + v2)).toNatClampNeg)) Q))) ∧ ((¬ (¬ (hAI h (hR h 1206 v0) ((((5 : Int32) * v1) + v2)).toNatClampNeg) = 0)) → (inA h (hR h 1206 v0) (((5 : Int32) * v2) + v1) = true) ∧ ((isZ (hAI (sAI (sI h 1204 v0 ((hI h 1204 v0) + (1 : Int32))) (hR h 1206 v0) ((((5 : Int32) * v1) + v2)).toNatClampNeg (1 : Int32)) (hR h 1206 v0) ((((5 : Int32) * v1) + v2)).toNatClampNeg) = true) ∧ (WP d mX12_cut 109 [some (.ref v0), some (.int v1), some (.int v2)] [.int (hAI (sAI (sAI (sI h 1204 v0 ((hI h 1204 v0) + (1 : Int32))) (hR h 1206 v0) ((((5 : Int32) * v1) + v2)).toNatClampNeg (1 : Int32)) (hR h 1206 v0) ((((5 : Int32) * v2) + v1)).toNatClampNeg (hAI (sAI (sI h 1204 v0 ((hI h 1204 v0) + (1 : Int32))) (hR h 1206 v0) ((((5 : Int32) * v1) + v2)).toNatClampNeg (1 : Int32)) (hR h 1206 v0) ((((5 : Int32) * v1) + v2)).toNatClampNeg)) (hR h 1206 v0) ((((5 : Int32) * v1) + v2)).toNatClampNeg)] (sAI (sAI (sI h 1204 v0 ((hI h 1204 v0) + (1 : Int32))) (hR h 1206 v0) ((((5 : Int32) * v1) + v2)).toNatClampNeg (1 : Int32)) (hR h 1206 v0) ((((5 : Int32) * v2) + v1)).toNatClampNeg (hAI (sAI (sI h 1204 v0 ((hI h 1204 v0) + (1 : Int32))) (hR h 1206 v0) ((((5 : Int32) * v1) + v2)).toNatClampNeg (1 : Int32)) (hR h 1206 v0) ((((5 : Int32) * v1) + v2)).toNatClampNeg)) Q))))))) ∧ ((¬ (¬ s0 = 0)) → Q (.inl (some (.int (0 : Int32)))) h)) : WP d mX12_cut 36 [some (.ref v0), some (.int v1), some (.int v2)] [.int s0] h Q := by
  refine w_if_ne (pc' := 41) dX12_cut_36 rfl rfl ⟨fun c => ?_, fun c => ?_⟩
  · replace k := k.1 c
    refine w_aload_n dX12_cut_41 rfl ?_
    refine w_dup dX12_cut_42 rfl ?_
    obtain ⟨g1, k⟩ := k
    refine w_getI dX12_cut_43 f_12_164 t_12_4 g1 ?_
    refine w_iconst dX12_cut_46 i1_1 ?_
    refine w_iadd dX12_cut_47 ?_
    refine w_putI dX12_cut_48 f_12_164 t_12_4 (pf_nf n_12_4) g1 ?_
    refine w_aload_n dX12_cut_51 rfl ?_
    refine w_getR dX12_cut_52 f_12_22 t_12_6 g1 ?_
    refine w_iconst dX12_cut_55 i1_5 ?_
    refine w_iload_n dX12_cut_56 rfl ?_
    refine w_imul dX12_cut_57 ?_
    refine w_iload_n dX12_cut_58 rfl ?_
    refine w_iadd dX12_cut_59 ?_
    refine w_aload_n dX12_cut_60 rfl ?_
    refine w_getR dX12_cut_61 f_12_22 t_12_6 g1 ?_
    refine w_iconst dX12_cut_64 i1_5 ?_
    refine w_iload_n dX12_cut_65 rfl ?_
    refine w_imul dX12_cut_66 ?_
    refine w_iload_n dX12_cut_67 rfl ?_
    refine w_iadd dX12_cut_68 ?_
    obtain ⟨g2, k⟩ := k
    obtain ⟨g3, k⟩ := k
    refine w_baload dX12_cut_69 g2 g3 ?_
    refine w_if_ne (pc' := 77) dX12_cut_70 rfl rfl ⟨fun c => ?_, fun c => ?_⟩
    · replace k := k.1 c
      refine w_iconst dX12_cut_77 i1_0 ?_
      refine w_bastore dX12_cut_78 g2 g3 rfl ?_
      refine w_aload_n dX12_cut_79 rfl ?_
      refine w_getR dX12_cut_80 f_12_22 t_12_6 g1 ?_
      refine w_iconst dX12_cut_83 i1_5 ?_
      refine w_iload_n dX12_cut_84 rfl ?_
      refine w_imul dX12_cut_85 ?_
      refine w_iload_n dX12_cut_86 rfl ?_
      refine w_iadd dX12_cut_87 ?_
      refine w_aload_n dX12_cut_88 rfl ?_
      refine w_getR dX12_cut_89 f_12_22 t_12_6 g1 ?_
      refine w_iconst dX12_cut_92 i1_5 ?_
      refine w_iload_n dX12_cut_93 rfl ?_
      refine w_imul dX12_cut_94 ?_
      refine w_iload_n dX12_cut_95 rfl ?_
      refine w_iadd dX12_cut_96 ?_
      refine w_baload dX12_cut_97 g2 g3 ?_
      obtain ⟨g4, k⟩ := k
      obtain ⟨g5, k⟩ := k
      refine w_bastore dX12_cut_98 g2 g4 g5 ?_
      refine w_aload_n dX12_cut_99 rfl ?_
      refine w_getR dX12_cut_100 f_12_22 t_12_6 g1 ?_
      refine w_iconst dX12_cut_103 i1_5 ?_
      refine w_iload_n dX12_cut_104 rfl ?_
      refine w_imul dX12_cut_105 ?_
      refine w_iload_n dX12_cut_106 rfl ?_
      refine w_iadd dX12_cut_107 ?_
      refine w_baload dX12_cut_108 g2 g3 ?_
      exact k
    · replace k := k.2 c
      refine w_iconst dX12_cut_73 i1_1 ?_
      refine w_goto (pc' := 78) dX12_cut_74 rfl rfl ?_
      refine w_bastore dX12_cut_78 g2 g3 rfl ?_
      refine w_aload_n dX12_cut_79 rfl ?_
      refine w_getR dX12_cut_80 f_12_22 t_12_6 g1 ?_
      refine w_iconst dX12_cut_83 i1_5 ?_
      refine w_iload_n dX12_cut_84 rfl ?_
      refine w_imul dX12_cut_85 ?_
      refine w_iload_n dX12_cut_86 rfl ?_
      refine w_iadd dX12_cut_87 ?_
      refine w_aload_n dX12_cut_88 rfl ?_
      refine w_getR dX12_cut_89 f_12_22 t_12_6 g1 ?_
      refine w_iconst dX12_cut_92 i1_5 ?_
      refine w_iload_n dX12_cut_93 rfl ?_
      refine w_imul dX12_cut_94 ?_
      refine w_iload_n dX12_cut_95 rfl ?_
      refine w_iadd dX12_cut_96 ?_
      refine w_baload dX12_cut_97 g2 g3 ?_
      obtain ⟨g6, k⟩ := k
      obtain ⟨g7, k⟩ := k
      refine w_bastore dX12_cut_98 g2 g6 g7 ?_
      refine w_aload_n dX12_cut_99 rfl ?_
      refine w_getR dX12_cut_100 f_12_22 t_12_6 g1 ?_
      refine w_iconst dX12_cut_103 i1_5 ?_
      refine w_iload_n dX12_cut_104 rfl ?_
      refine w_imul dX12_cut_105 ?_
      refine w_iload_n dX12_cut_106 rfl ?_
      refine w_iadd dX12_cut_107 ?_
      refine w_baload dX12_cut_108 g2 g3 ?_
      exact k
  · replace k := k.2 c
    refine w_iconst dX12_cut_39 i1_0 ?_
    exact w_ireturn dX12_cut_40 rfl k
theorem bX12_cut_109 {d : Nat} {h : HP} {Q : Out → HP → Prop} {v0 : Nat} {v1 : Int32} {v2 : Int32} {s0 : Int32} (k : (isZ s0 = true) ∧ (Q (.inl (some (.int s0))) h)) : WP d mX12_cut 109 [some (.ref v0), some (.int v1), some (.int v2)] [.int s0] h Q := by
  obtain ⟨g1, k⟩ := k
  exact w_ireturn dX12_cut_109 g1 k
theorem bX12_rate_0 {d : Nat} {h : HP} {Q : Out → HP → Prop} {v0 : Nat} {v1 : Int32} {v2 : Int32} (k : (1 < v0) ∧ ((hK h v0 = 12) ∧ (WP d mX12_isMachine 0 [some (.ref v0), some (.int v1)] [] h (KK d mX12_rate mX12_isMachine 3 [some (.ref v0), some (.int v1), some (.int v2)] [.ref v0] Q)))) : WP (d + 1) mX12_rate 0 [some (.ref v0), some (.int v1), some (.int v2)] [] h Q := by
  refine w_aload_n dX12_rate_0 rfl ?_
  refine w_aload_n dX12_rate_1 rfl ?_
  refine w_iload_n dX12_rate_2 rfl ?_
  obtain ⟨g1, k⟩ := k
  obtain ⟨g2, k⟩ := k
  exact w_virt (as1 := [.int v1, .ref v0]) (as2 := [.ref v0, .int v1]) (rest := [.ref v0]) (lo2 := [some (.ref v0), some (.int v1)]) dX12_rate_3 c_12_181 rfl rfl rfl (Nat.le_of_ble_eq_true rfl) (Nat.le_of_ble_eq_true rfl) rfl (Nat.le_of_ble_eq_true rfl) rfl rfl g1 g2 k
theorem bX12_rate_6 {d : Nat} {h : HP} {Q : Out → HP → Prop} {v0 : Nat} {v1 : Int32} {v2 : Int32} {s0 : Int32} {s1 : Nat} (k : WP d mX12_in 0 [some (.int v2), some (.int (500 : Int32)), some (.int (1500 : Int32))] [] h (KK d mX12_rate mX12_in 13 [some (.ref v0), some (.int v1), some (.int v2)] [.int s0, .ref s1] Q)) : WP (d + 1) mX12_rate 6 [some (.ref v0), some (.int v1), some (.int v2)] [.int s0, .ref s1] h Q := by
  refine w_iload_n dX12_rate_6 rfl ?_
  refine w_sipush dX12_rate_7 i3_500 ?_
  refine w_sipush dX12_rate_10 i3_1500 ?_
  exact w_stat (as1 := [.int (1500 : Int32), .int (500 : Int32), .int v2]) (as2 := [.int v2, .int (500 : Int32), .int (1500 : Int32)]) (rest := [.int s0, .ref s1]) (lo2 := [some (.int v2), some (.int (500 : Int32)), some (.int (1500 : Int32))]) dX12_rate_13 c_12_154 rfl rfl rfl (Nat.le_of_ble_eq_true rfl) (Nat.le_of_ble_eq_true rfl) rfl (Nat.le_of_ble_eq_true rfl) rfl k
theorem bX12_rate_16 {d : Nat} {h : HP} {Q : Out → HP → Prop} {v0 : Nat} {v1 : Int32} {v2 : Int32} {s0 : Int32} {s1 : Int32} {s2 : Nat} (k : (1 < s2) ∧ ((hK h s2 = 12) ∧ (WP d mX12_goes 0 [some (.ref s2), some (.int s1), some (.int s0), some (.int (1 : Int32))] [] h (KK d mX12_rate mX12_goes 17 [some (.ref v0), some (.int v1), some (.int v2)] [] Q)))) : WP (d + 1) mX12_rate 16 [some (.ref v0), some (.int v1), some (.int v2)] [.int s0, .int s1, .ref s2] h Q := by
  refine w_iconst dX12_rate_16 i1_1 ?_
  obtain ⟨g1, k⟩ := k
  obtain ⟨g2, k⟩ := k
  exact w_virt (as1 := [.int (1 : Int32), .int s0, .int s1, .ref s2]) (as2 := [.ref s2, .int s1, .int s0, .int (1 : Int32)]) (rest := []) (lo2 := [some (.ref s2), some (.int s1), some (.int s0), some (.int (1 : Int32))]) dX12_rate_17 c_12_173 rfl rfl rfl (Nat.le_of_ble_eq_true rfl) (Nat.le_of_ble_eq_true rfl) rfl (Nat.le_of_ble_eq_true rfl) rfl rfl g1 g2 k
theorem bX12_rate_20 {d : Nat} {h : HP} {Q : Out → HP → Prop} {v0 : Nat} {v1 : Int32} {v2 : Int32} {s0 : Int32} (k : ((¬ s0 = 0) → (hK h v0 = 12) ∧ ((nn32 (FP.fdiv (FP.i2f v2) (1148846080 : UInt32)) = true) ∧ ((hK h (hR h 1208 v0) = 22) ∧ ((inA h (hR h 1208 v0) v1 = true) ∧ ((hK h (hR h 1207 v0) = 22) ∧ ((inA h (hR h 1207 v0) v1 = true) ∧ (Q (.inl (some (.float (hAF (sAF (sI h 1204 v0 ((hI h 1204 v0) + (1 : Int32))) (hR h 1208 v0) (v1).toNatClampNeg (FP.fdiv (FP.i2f v2) (1148846080 : UInt32))) (hR h 1207 v0) (v1).toNatClampNeg)))) (sAF (sI h 1204 v0 ((hI h 1204 v0) + (1 : Int32))) (hR h 1208 v0) (v1).toNatClampNeg (FP.fdiv (FP.i2f v2) (1148846080 : UInt32)))))))))) ∧ ((¬ (¬ s0 = 0)) → Q (.inl (some (.float FP.fconst0))) h)) : WP d mX12_rate 20 [some (.ref v0), some (.int v1), some (.int v2)] [.int s0] h Q := by
  refine w_if_ne (pc' := 25) dX12_rate_20 rfl rfl ⟨fun c => ?_, fun c => ?_⟩
  · replace k := k.1 c
    refine w_aload_n dX12_rate_25 rfl ?_
    refine w_dup dX12_rate_26 rfl ?_
    obtain ⟨g1, k⟩ := k
    refine w_getI dX12_rate_27 f_12_164 t_12_4 g1 ?_
    refine w_iconst dX12_rate_30 i1_1 ?_
    refine w_iadd dX12_rate_31 ?_
    refine w_putI dX12_rate_32 f_12_164 t_12_4 (pf_nf n_12_4) g1 ?_
    refine w_aload_n dX12_rate_35 rfl ?_
    refine w_getR dX12_rate_36 f_12_29 t_12_8 g1 ?_
    refine w_iload_n dX12_rate_39 rfl ?_
    refine w_iload_n dX12_rate_40 rfl ?_
    refine w_i2f dX12_rate_41 ?_
    refine w_ldc dX12_rate_42 l_12_190 ?_
    obtain ⟨g2, k⟩ := k
    refine w_fdiv dX12_rate_44 g2 ?_
    obtain ⟨g3, k⟩ := k
    obtain ⟨g4, k⟩ := k
    refine w_fastore dX12_rate_45 g3 g4 ?_
    refine w_aload_n dX12_rate_46 rfl ?_
    refine w_getR dX12_rate_47 f_12_25 t_12_7 g1 ?_
    refine w_iload_n dX12_rate_50 rfl ?_
    obtain ⟨g5, k⟩ := k
    obtain ⟨g6, k⟩ := k
    refine w_faload dX12_rate_51 g5 g6 ?_
    exact w_freturn dX12_rate_52 rfl k
  · replace k := k.2 c
    refine w_fconst0 dX12_rate_23 ?_
    exact w_freturn dX12_rate_24 rfl k
theorem bX12_spans_0 {d : Nat} {h : HP} {Q : Out → HP → Prop} {v0 : Nat} {v1 : Int32} {v2 : Int32} (k : WP d mX12_in 0 [some (.int v1), some (.int (1 : Int32)), some (.int (1000 : Int32))] [] h (KK d mX12_spans mX12_in 6 [some (.ref v0), some (.int v1), some (.int v2)] [.ref v0] Q)) : WP (d + 1) mX12_spans 0 [some (.ref v0), some (.int v1), some (.int v2)] [] h Q := by
  refine w_aload_n dX12_spans_0 rfl ?_
  refine w_iload_n dX12_spans_1 rfl ?_
  refine w_iconst dX12_spans_2 i1_1 ?_
  refine w_sipush dX12_spans_3 i3_1000 ?_
  exact w_stat (as1 := [.int (1000 : Int32), .int (1 : Int32), .int v1]) (as2 := [.int v1, .int (1 : Int32), .int (1000 : Int32)]) (rest := [.ref v0]) (lo2 := [some (.int v1), some (.int (1 : Int32)), some (.int (1000 : Int32))]) dX12_spans_6 c_12_154 rfl rfl rfl (Nat.le_of_ble_eq_true rfl) (Nat.le_of_ble_eq_true rfl) rfl (Nat.le_of_ble_eq_true rfl) rfl k
theorem bX12_spans_9 {d : Nat} {h : HP} {Q : Out → HP → Prop} {v0 : Nat} {v1 : Int32} {v2 : Int32} {s0 : Int32} {s1 : Nat} (k : ((s0 = 0) → (1 < s1) ∧ ((hK h s1 = 12) ∧ (WP d mX12_goes 0 [some (.ref s1), some (.int (0 : Int32)), some (.int (1 : Int32)), some (.int (1 : Int32))] [] h (KK d mX12_spans mX12_goes 29 [some (.ref v0), some (.int v1), some (.int v2)] [] Q)))) ∧ ((¬ (s0 = 0)) → WP d mX12_in 0 [some (.int v2), some (.int (0 : Int32)), some (.int (90 : Int32))] [] h (KK d mX12_spans mX12_in 16 [some (.ref v0), some (.int v1), some (.int v2)] [.ref s1] Q))) : WP (d + 1) mX12_spans 9 [some (.ref v0), some (.int v1), some (.int v2)] [.int s0, .ref s1] h Q := by
  refine w_if_eq (pc' := 26) dX12_spans_9 rfl rfl ⟨fun c => ?_, fun c => ?_⟩
  · replace k := k.1 c
    refine w_iconst dX12_spans_26 i1_0 ?_
    refine w_iconst dX12_spans_27 i1_1 ?_
    refine w_iconst dX12_spans_28 i1_1 ?_
    obtain ⟨g1, k⟩ := k
    obtain ⟨g2, k⟩ := k
    exact w_virt (as1 := [.int (1 : Int32), .int (1 : Int32), .int (0 : Int32), .ref s1]) (as2 := [.ref s1, .int (0 : Int32), .int (1 : Int32), .int (1 : Int32)]) (rest := []) (lo2 := [some (.ref s1), some (.int (0 : Int32)), some (.int (1 : Int32)), some (.int (1 : Int32))]) dX12_spans_29 c_12_173 rfl rfl rfl (Nat.le_of_ble_eq_true rfl) (Nat.le_of_ble_eq_true rfl) rfl (Nat.le_of_ble_eq_true rfl) rfl rfl g1 g2 k
  · replace k := k.2 c
    refine w_iload_n dX12_spans_12 rfl ?_
    refine w_iconst dX12_spans_13 i1_0 ?_
    refine w_bipush dX12_spans_14 i2_90 ?_
    exact w_stat (as1 := [.int (90 : Int32), .int (0 : Int32), .int v2]) (as2 := [.int v2, .int (0 : Int32), .int (90 : Int32)]) (rest := [.ref s1]) (lo2 := [some (.int v2), some (.int (0 : Int32)), some (.int (90 : Int32))]) dX12_spans_16 c_12_154 rfl rfl rfl (Nat.le_of_ble_eq_true rfl) (Nat.le_of_ble_eq_true rfl) rfl (Nat.le_of_ble_eq_true rfl) rfl k
theorem bX12_spans_19 {d : Nat} {h : HP} {Q : Out → HP → Prop} {v0 : Nat} {v1 : Int32} {v2 : Int32} {s0 : Int32} {s1 : Nat} (k : ((s0 = 0) → (1 < s1) ∧ ((hK h s1 = 12) ∧ (WP d mX12_goes 0 [some (.ref s1), some (.int (0 : Int32)), some (.int (1 : Int32)), some (.int (1 : Int32))] [] h (KK d mX12_spans mX12_goes 29 [some (.ref v0), some (.int v1), some (.int v2)] [] Q)))) ∧ ((¬ (s0 = 0)) → (1 < s1) ∧ ((hK h s1 = 12) ∧ (WP d mX12_goes 0 [some (.ref s1), some (.int (1 : Int32)), some (.int (1 : Int32)), some (.int (1 : Int32))] [] h (KK d mX12_spans mX12_goes 29 [some (.ref v0), some (.int v1), some (.int v2)] [] Q))))) : WP (d + 1) mX12_spans 19 [some (.ref v0), some (.int v1), some (.int v2)] [.int s0, .ref s1] h Q := by
  refine w_if_eq (pc' := 26) dX12_spans_19 rfl rfl ⟨fun c => ?_, fun c => ?_⟩
  · replace k := k.1 c
    refine w_iconst dX12_spans_26 i1_0 ?_
    refine w_iconst dX12_spans_27 i1_1 ?_
    refine w_iconst dX12_spans_28 i1_1 ?_
    obtain ⟨g1, k⟩ := k
    obtain ⟨g2, k⟩ := k
    exact w_virt (as1 := [.int (1 : Int32), .int (1 : Int32), .int (0 : Int32), .ref s1]) (as2 := [.ref s1, .int (0 : Int32), .int (1 : Int32), .int (1 : Int32)]) (rest := []) (lo2 := [some (.ref s1), some (.int (0 : Int32)), some (.int (1 : Int32)), some (.int (1 : Int32))]) dX12_spans_29 c_12_173 rfl rfl rfl (Nat.le_of_ble_eq_true rfl) (Nat.le_of_ble_eq_true rfl) rfl (Nat.le_of_ble_eq_true rfl) rfl rfl g1 g2 k
  · replace k := k.2 c
    refine w_iconst dX12_spans_22 i1_1 ?_
    refine w_goto (pc' := 27) dX12_spans_23 rfl rfl ?_
    refine w_iconst dX12_spans_27 i1_1 ?_
    refine w_iconst dX12_spans_28 i1_1 ?_
    obtain ⟨g3, k⟩ := k
    obtain ⟨g4, k⟩ := k
    exact w_virt (as1 := [.int (1 : Int32), .int (1 : Int32), .int (1 : Int32), .ref s1]) (as2 := [.ref s1, .int (1 : Int32), .int (1 : Int32), .int (1 : Int32)]) (rest := []) (lo2 := [some (.ref s1), some (.int (1 : Int32)), some (.int (1 : Int32)), some (.int (1 : Int32))]) dX12_spans_29 c_12_173 rfl rfl rfl (Nat.le_of_ble_eq_true rfl) (Nat.le_of_ble_eq_true rfl) rfl (Nat.le_of_ble_eq_true rfl) rfl rfl g3 g4 k
theorem bX12_spans_32 {d : Nat} {h : HP} {Q : Out → HP → Prop} {v0 : Nat} {v1 : Int32} {v2 : Int32} {s0 : Int32} (k : ((s0 = 0) → Q (.inl none) h) ∧ ((¬ (s0 = 0)) → (hK h v0 = 12) ∧ ((nn32 (FP.fdiv (FP.i2f v1) (1092616192 : UInt32)) = true) ∧ ((nn32 (FP.fdiv (FP.i2f v2) (1120403456 : UInt32)) = true) ∧ (Q (.inl none) (sF (sF (sI h 1204 v0 ((hI h 1204 v0) + (1 : Int32))) 1202 v0 (FP.fdiv (FP.i2f v1) (1092616192 : UInt32))) 1203 v0 (FP.fdiv (FP.i2f v2) (1120403456 : UInt32)))))))) : WP d mX12_spans 32 [some (.ref v0), some (.int v1), some (.int v2)] [.int s0] h Q := by
  refine w_if_eq (pc' := 63) dX12_spans_32 rfl rfl ⟨fun c => ?_, fun c => ?_⟩
  · replace k := k.1 c
    exact w_return dX12_spans_63 rfl k
  · replace k := k.2 c
    refine w_aload_n dX12_spans_35 rfl ?_
    refine w_dup dX12_spans_36 rfl ?_
    obtain ⟨g1, k⟩ := k
    refine w_getI dX12_spans_37 f_12_164 t_12_4 g1 ?_
    refine w_iconst dX12_spans_40 i1_1 ?_
    refine w_iadd dX12_spans_41 ?_
    refine w_putI dX12_spans_42 f_12_164 t_12_4 (pf_nf n_12_4) g1 ?_
    refine w_aload_n dX12_spans_45 rfl ?_
    refine w_iload_n dX12_spans_46 rfl ?_
    refine w_i2f dX12_spans_47 ?_
    refine w_ldc dX12_spans_48 l_12_13 ?_
    obtain ⟨g2, k⟩ := k
    refine w_fdiv dX12_spans_50 g2 ?_
    refine w_putF dX12_spans_51 f_12_14 t_12_2 (pf_nf n_12_2) g1 ?_
    refine w_aload_n dX12_spans_54 rfl ?_
    refine w_iload_n dX12_spans_55 rfl ?_
    refine w_i2f dX12_spans_56 ?_
    refine w_ldc dX12_spans_57 l_12_191 ?_
    obtain ⟨g3, k⟩ := k
    refine w_fdiv dX12_spans_59 g3 ?_
    refine w_putF dX12_spans_60 f_12_161 t_12_3 (pf_nf n_12_3) g1 ?_
    exact w_return dX12_spans_63 rfl k
theorem bX12_pass_0 {d : Nat} {h : HP} {Q : Out → HP → Prop} {v0 : Nat} {v1 : Int32} {u2 : Option Value} {u3 : Option Value} (k : WP d mX12_in 0 [some (.int v1), some (.int (1 : Int32)), some (.int (1000 : Int32))] [] h (KK d mX12_pass mX12_in 6 [some (.ref v0), some (.int v1), u2, u3] [.ref v0] Q)) : WP (d + 1) mX12_pass 0 [some (.ref v0), some (.int v1), u2, u3] [] h Q := by
  refine w_aload_n dX12_pass_0 rfl ?_
  refine w_iload_n dX12_pass_1 rfl ?_
  refine w_iconst dX12_pass_2 i1_1 ?_
  refine w_sipush dX12_pass_3 i3_1000 ?_
  exact w_stat (as1 := [.int (1000 : Int32), .int (1 : Int32), .int v1]) (as2 := [.int v1, .int (1 : Int32), .int (1000 : Int32)]) (rest := [.ref v0]) (lo2 := [some (.int v1), some (.int (1 : Int32)), some (.int (1000 : Int32))]) dX12_pass_6 c_12_154 rfl rfl rfl (Nat.le_of_ble_eq_true rfl) (Nat.le_of_ble_eq_true rfl) rfl (Nat.le_of_ble_eq_true rfl) rfl k
theorem bX12_pass_9 {d : Nat} {h : HP} {Q : Out → HP → Prop} {v0 : Nat} {v1 : Int32} {u2 : Option Value} {u3 : Option Value} {s0 : Int32} {s1 : Nat} (k : (1 < s1) ∧ ((hK h s1 = 12) ∧ (WP d mX12_goes 0 [some (.ref s1), some (.int s0), some (.int (1 : Int32)), some (.int (1 : Int32))] [] h (KK d mX12_pass mX12_goes 11 [some (.ref v0), some (.int v1), u2, u3] [] Q)))) : WP (d + 1) mX12_pass 9 [some (.ref v0), some (.int v1), u2, u3] [.int s0, .ref s1] h Q := by
  refine w_iconst dX12_pass_9 i1_1 ?_
  refine w_iconst dX12_pass_10 i1_1 ?_
  obtain ⟨g1, k⟩ := k
  obtain ⟨g2, k⟩ := k
  exact w_virt (as1 := [.int (1 : Int32), .int (1 : Int32), .int s0, .ref s1]) (as2 := [.ref s1, .int s0, .int (1 : Int32), .int (1 : Int32)]) (rest := []) (lo2 := [some (.ref s1), some (.int s0), some (.int (1 : Int32)), some (.int (1 : Int32))]) dX12_pass_11 c_12_173 rfl rfl rfl (Nat.le_of_ble_eq_true rfl) (Nat.le_of_ble_eq_true rfl) rfl (Nat.le_of_ble_eq_true rfl) rfl rfl g1 g2 k
theorem bX12_pass_14 {d : Nat} {h : HP} {Q : Out → HP → Prop} {v0 : Nat} {v1 : Int32} {u2 : Option Value} {u3 : Option Value} {s0 : Int32} (k : ((¬ s0 = 0) → (hK h v0 = 12) ∧ ((nn32 (FP.fdiv (FP.i2f v1) (1092616192 : UInt32)) = true) ∧ ((nn32 (FP.fadd (hF h 1201 v0) (FP.fdiv (FP.i2f v1) (1092616192 : UInt32))) = true) ∧ (WP d mX12_pass 47 [some (.ref v0), some (.int v1), some (.float (FP.fdiv (FP.i2f v1) (1092616192 : UInt32))), some (.int (0 : Int32))] [] (sF (sI h 1204 v0 ((hI h 1204 v0) + (1 : Int32))) 1201 v0 (FP.fadd (hF h 1201 v0) (FP.fdiv (FP.i2f v1) (1092616192 : UInt32)))) Q)))) ∧ ((¬ (¬ s0 = 0)) → Q (.inl (some (.float FP.fconst0))) h)) : WP d mX12_pass 14 [some (.ref v0), some (.int v1), u2, u3] [.int s0] h Q := by
  refine w_if_ne (pc' := 19) dX12_pass_14 rfl rfl ⟨fun c => ?_, fun c => ?_⟩
  · replace k := k.1 c
    refine w_aload_n dX12_pass_19 rfl ?_
    refine w_dup dX12_pass_20 rfl ?_
    obtain ⟨g1, k⟩ := k
    refine w_getI dX12_pass_21 f_12_164 t_12_4 g1 ?_
    refine w_iconst dX12_pass_24 i1_1 ?_
    refine w_iadd dX12_pass_25 ?_
    refine w_putI dX12_pass_26 f_12_164 t_12_4 (pf_nf n_12_4) g1 ?_
    refine w_iload_n dX12_pass_29 rfl ?_
    refine w_i2f dX12_pass_30 ?_
    refine w_ldc dX12_pass_31 l_12_13 ?_
    obtain ⟨g2, k⟩ := k
    refine w_fdiv dX12_pass_33 g2 ?_
    refine w_fstore_n (lo' := [some (.ref v0), some (.int v1), some (.float (FP.fdiv (FP.i2f v1) (1092616192 : UInt32))), u3]) dX12_pass_34 (ltQ rfl) rfl ?_
    refine w_aload_n dX12_pass_35 rfl ?_
    refine w_aload_n dX12_pass_36 rfl ?_
    refine w_getF dX12_pass_37 f_12_158 t_12_1 g1 ?_
    refine w_fload_n dX12_pass_40 rfl ?_
    obtain ⟨g3, k⟩ := k
    refine w_fadd dX12_pass_41 g3 ?_
    refine w_putF dX12_pass_42 f_12_158 t_12_1 (pf_nf n_12_1) g1 ?_
    refine w_iconst dX12_pass_45 i1_0 ?_
    refine w_istore_n (lo' := [some (.ref v0), some (.int v1), some (.float (FP.fdiv (FP.i2f v1) (1092616192 : UInt32))), some (.int (0 : Int32))]) dX12_pass_46 (ltQ rfl) rfl ?_
    exact k
  · replace k := k.2 c
    refine w_fconst0 dX12_pass_17 ?_
    exact w_freturn dX12_pass_18 rfl k
theorem bX12_pass_47 {d : Nat} {h : HP} {Q : Out → HP → Prop} {v0 : Nat} {v1 : Int32} {v2 : UInt32} {v3 : Int32} (k : (hK h v0 = 12) ∧ ((((hI h 1200 v0) ≤ v3) → Q (.inl (some (.float (hF h 1201 v0)))) h) ∧ ((¬ ((hI h 1200 v0) ≤ v3)) → (hK h (hR h 1207 v0) = 22) ∧ ((inA h (hR h 1207 v0) v3 = true) ∧ ((hK h (hR h 1208 v0) = 22) ∧ ((inA h (hR h 1208 v0) v3 = true) ∧ ((nn32 (FP.fmul v2 (hAF h (hR h 1208 v0) (v3).toNatClampNeg)) = true) ∧ ((nn32 (FP.fadd (hAF h (hR h 1207 v0) (v3).toNatClampNeg) (FP.fmul v2 (hAF h (hR h 1208 v0) (v3).toNatClampNeg))) = true) ∧ (WP d mX12_pass 47 [some (.ref v0), some (.int v1), some (.float v2), some (.int (v3 + (1 : Int32)))] [] (sAF h (hR h 1207 v0) (v3).toNatClampNeg (FP.fadd (hAF h (hR h 1207 v0) (v3).toNatClampNeg) (FP.fmul v2 (hAF h (hR h 1208 v0) (v3).toNatClampNeg)))) Q))))))))) : WP d mX12_pass 47 [some (.ref v0), some (.int v1), some (.float v2), some (.int v3)] [] h Q := by
  refine w_iload_n dX12_pass_47 rfl ?_
  refine w_aload_n dX12_pass_48 rfl ?_
  obtain ⟨g1, k⟩ := k
  refine w_getI dX12_pass_49 f_12_7 t_12_0 g1 ?_
  refine w_ic_ge (pc' := 82) dX12_pass_52 rfl rfl ⟨fun c => ?_, fun c => ?_⟩
  · replace k := k.1 c
    refine w_aload_n dX12_pass_82 rfl ?_
    refine w_getF dX12_pass_83 f_12_158 t_12_1 g1 ?_
    exact w_freturn dX12_pass_86 rfl k
  · replace k := k.2 c
    refine w_aload_n dX12_pass_55 rfl ?_
    refine w_getR dX12_pass_56 f_12_25 t_12_7 g1 ?_
    refine w_iload_n dX12_pass_59 rfl ?_
    refine w_aload_n dX12_pass_60 rfl ?_
    refine w_getR dX12_pass_61 f_12_25 t_12_7 g1 ?_
    refine w_iload_n dX12_pass_64 rfl ?_
    obtain ⟨g2, k⟩ := k
    obtain ⟨g3, k⟩ := k
    refine w_faload dX12_pass_65 g2 g3 ?_
    refine w_fload_n dX12_pass_66 rfl ?_
    refine w_aload_n dX12_pass_67 rfl ?_
    refine w_getR dX12_pass_68 f_12_29 t_12_8 g1 ?_
    refine w_iload_n dX12_pass_71 rfl ?_
    obtain ⟨g4, k⟩ := k
    obtain ⟨g5, k⟩ := k
    refine w_faload dX12_pass_72 g4 g5 ?_
    obtain ⟨g6, k⟩ := k
    refine w_fmul dX12_pass_73 g6 ?_
    obtain ⟨g7, k⟩ := k
    refine w_fadd dX12_pass_74 g7 ?_
    refine w_fastore dX12_pass_75 g2 g3 ?_
    refine w_iinc (lo' := [some (.ref v0), some (.int v1), some (.float v2), some (.int (v3 + (1 : Int32)))]) dX12_pass_76 rfl i1_1 rfl ?_
    refine w_goto (pc' := 47) dX12_pass_79 rfl rfl ?_
    exact k
theorem bX12_sends_0 {d : Nat} {h : HP} {Q : Out → HP → Prop} {v0 : Nat} {v1 : Int32} {v2 : Int32} {v3 : Int32} {v4 : Int32} {u5 : Option Value} {u6 : Option Value} (k : (hK h v0 = 12) ∧ ((((60 : Int32) ≤ (hI (sI h 1240 v0 ((hI h 1240 v0) + (1 : Int32))) 1239 v0)) → ((¬ (-1 : Int32) = (-1 : Int32)) → WP d mX12_sends 43 [some (.ref v0), some (.int v1), some (.int v2), some (.int v3), some (.int v4), some (.int (-1 : Int32)), some (.int (0 : Int32))] [] (sI h 1240 v0 ((hI h 1240 v0) + (1 : Int32))) Q) ∧ ((¬ (¬ (-1 : Int32) = (-1 : Int32))) → Q (.inl (some (.int (-1 : Int32)))) (sI h 1240 v0 ((hI h 1240 v0) + (1 : Int32))))) ∧ ((¬ ((60 : Int32) ≤ (hI (sI h 1240 v0 ((hI h 1240 v0) + (1 : Int32))) 1239 v0))) → ((¬ ((24 : Int32) * (hI (sI h 1240 v0 ((hI h 1240 v0) + (1 : Int32))) 1239 v0)) = (-1 : Int32)) → WP d mX12_sends 43 [some (.ref v0), some (.int v1), some (.int v2), some (.int v3), some (.int v4), some (.int ((24 : Int32) * (hI (sI h 1240 v0 ((hI h 1240 v0) + (1 : Int32))) 1239 v0))), some (.int (0 : Int32))] [] (sI h 1240 v0 ((hI h 1240 v0) + (1 : Int32))) Q) ∧ ((¬ (¬ ((24 : Int32) * (hI (sI h 1240 v0 ((hI h 1240 v0) + (1 : Int32))) 1239 v0)) = (-1 : Int32))) → Q (.inl (some (.int (-1 : Int32)))) (sI h 1240 v0 ((hI h 1240 v0) + (1 : Int32))))))) : WP d mX12_sends 0 [some (.ref v0), some (.int v1), some (.int v2), some (.int v3), some (.int v4), u5, u6] [] h Q := by
  refine w_aload_n dX12_sends_0 rfl ?_
  refine w_dup dX12_sends_1 rfl ?_
  obtain ⟨g1, k⟩ := k
  refine w_getI dX12_sends_2 f_12_192 t_12_40 g1 ?_
  refine w_iconst dX12_sends_5 i1_1 ?_
  refine w_iadd dX12_sends_6 ?_
  refine w_putI dX12_sends_7 f_12_192 t_12_40 (pf_nf n_12_40) g1 ?_
  refine w_aload_n dX12_sends_10 rfl ?_
  refine w_getI dX12_sends_11 f_12_167 t_12_39 g1 ?_
  refine w_bipush dX12_sends_14 i2_60 ?_
  refine w_ic_ge (pc' := 29) dX12_sends_16 rfl rfl ⟨fun c => ?_, fun c => ?_⟩
  · replace k := k.1 c
    refine w_iconst dX12_sends_29 i1_m1 ?_
    refine w_istore (lo' := [some (.ref v0), some (.int v1), some (.int v2), some (.int v3), some (.int v4), some (.int (-1 : Int32)), u6]) dX12_sends_30 (ltQ rfl) rfl ?_
    refine w_iload dX12_sends_32 rfl ?_
    refine w_iconst dX12_sends_34 i1_m1 ?_
    refine w_ic_ne (pc' := 40) dX12_sends_35 rfl rfl ⟨fun c => ?_, fun c => ?_⟩
    · replace k := k.1 c
      refine w_iconst dX12_sends_40 i1_0 ?_
      refine w_istore (lo' := [some (.ref v0), some (.int v1), some (.int v2), some (.int v3), some (.int v4), some (.int (-1 : Int32)), some (.int (0 : Int32))]) dX12_sends_41 (ltQ rfl) rfl ?_
      exact k
    · replace k := k.2 c
      refine w_iconst dX12_sends_38 i1_m1 ?_
      exact w_ireturn dX12_sends_39 rfl k
  · replace k := k.2 c
    refine w_bipush dX12_sends_19 i2_24 ?_
    refine w_aload_n dX12_sends_21 rfl ?_
    refine w_getI dX12_sends_22 f_12_167 t_12_39 g1 ?_
    refine w_imul dX12_sends_25 ?_
    refine w_goto (pc' := 30) dX12_sends_26 rfl rfl ?_
    refine w_istore (lo' := [some (.ref v0), some (.int v1), some (.int v2), some (.int v3), some (.int v4), some (.int ((24 : Int32) * (hI (sI h 1240 v0 ((hI h 1240 v0) + (1 : Int32))) 1239 v0))), u6]) dX12_sends_30 (ltQ rfl) rfl ?_
    refine w_iload dX12_sends_32 rfl ?_
    refine w_iconst dX12_sends_34 i1_m1 ?_
    refine w_ic_ne (pc' := 40) dX12_sends_35 rfl rfl ⟨fun c => ?_, fun c => ?_⟩
    · replace k := k.1 c
      refine w_iconst dX12_sends_40 i1_0 ?_
      refine w_istore (lo' := [some (.ref v0), some (.int v1), some (.int v2), some (.int v3), some (.int v4), some (.int ((24 : Int32) * (hI (sI h 1240 v0 ((hI h 1240 v0) + (1 : Int32))) 1239 v0))), some (.int (0 : Int32))]) dX12_sends_41 (ltQ rfl) rfl ?_
      exact k
    · replace k := k.2 c
      refine w_iconst dX12_sends_38 i1_m1 ?_
      exact w_ireturn dX12_sends_39 rfl k
theorem bX12_sends_43 {d : Nat} {h : HP} {Q : Out → HP → Prop} {v0 : Nat} {v1 : Int32} {v2 : Int32} {v3 : Int32} {v4 : Int32} {v5 : Int32} {v6 : Int32} (k : (((24 : Int32) ≤ v6) → (hK h v0 = 12) ∧ ((hK h (hR h 1238 v0) = 22) ∧ ((inA h (hR h 1238 v0) (hI h 1239 v0) = true) ∧ ((hK h (hR h 1237 v0) = 20) ∧ ((inA h (hR h 1237 v0) v5 = true) ∧ ((inA h (hR h 1237 v0) (v5 + (1 : Int32)) = true) ∧ ((inA h (hR h 1237 v0) (v5 + (2 : Int32)) = true) ∧ ((inA h (hR h 1237 v0) (v5 + (3 : Int32)) = true) ∧ (Q (.inl (some (.int v5))) (sI (sAI (sAI (sAI (sAI (sAF h (hR h 1238 v0) ((hI h 1239 v0)).toNatClampNeg FP.fconst0) (hR h 1237 v0) (v5).toNatClampNeg v1) (hR h 1237 v0) ((v5 + (1 : Int32))).toNatClampNeg v2) (hR h 1237 v0) ((v5 + (2 : Int32))).toNatClampNeg v3) (hR h 1237 v0) ((v5 + (3 : Int32))).toNatClampNeg v4) 1239 v0 ((hI h 1239 v0) + (1 : Int32)))))))))))) ∧ ((¬ ((24 : Int32) ≤ v6)) → (hK h v0 = 12) ∧ ((hK h (hR h 1237 v0) = 20) ∧ ((inA h (hR h 1237 v0) (v5 + v6) = true) ∧ (WP d mX12_sends 43 [some (.ref v0), some (.int v1), some (.int v2), some (.int v3), some (.int v4), some (.int v5), some (.int (v6 + (1 : Int32)))] [] (sAI h (hR h 1237 v0) ((v5 + v6)).toNatClampNeg (0 : Int32)) Q))))) : WP d mX12_sends 43 [some (.ref v0), some (.int v1), some (.int v2), some (.int v3), some (.int v4), some (.int v5), some (.int v6)] [] h Q := by
  refine w_iload dX12_sends_43 rfl ?_
  refine w_bipush dX12_sends_45 i2_24 ?_
  refine w_ic_ge (pc' := 67) dX12_sends_47 rfl rfl ⟨fun c => ?_, fun c => ?_⟩
  · replace k := k.1 c
    refine w_aload_n dX12_sends_67 rfl ?_
    obtain ⟨g1, k⟩ := k
    refine w_getR dX12_sends_68 f_12_120 t_12_38 g1 ?_
    refine w_aload_n dX12_sends_71 rfl ?_
    refine w_getI dX12_sends_72 f_12_167 t_12_39 g1 ?_
    refine w_fconst0 dX12_sends_75 ?_
    obtain ⟨g2, k⟩ := k
    obtain ⟨g3, k⟩ := k
    refine w_fastore dX12_sends_76 g2 g3 ?_
    refine w_aload_n dX12_sends_77 rfl ?_
    refine w_getR dX12_sends_78 f_12_117 t_12_37 g1 ?_
    refine w_iload dX12_sends_81 rfl ?_
    refine w_iload_n dX12_sends_83 rfl ?_
    obtain ⟨g4, k⟩ := k
    obtain ⟨g5, k⟩ := k
    refine w_iastore dX12_sends_84 g4 g5 ?_
    refine w_aload_n dX12_sends_85 rfl ?_
    refine w_getR dX12_sends_86 f_12_117 t_12_37 g1 ?_
    refine w_iload dX12_sends_89 rfl ?_
    refine w_iconst dX12_sends_91 i1_1 ?_
    refine w_iadd dX12_sends_92 ?_
    refine w_iload_n dX12_sends_93 rfl ?_
    obtain ⟨g6, k⟩ := k
    refine w_iastore dX12_sends_94 g4 g6 ?_
    refine w_aload_n dX12_sends_95 rfl ?_
    refine w_getR dX12_sends_96 f_12_117 t_12_37 g1 ?_
    refine w_iload dX12_sends_99 rfl ?_
    refine w_iconst dX12_sends_101 i1_2 ?_
    refine w_iadd dX12_sends_102 ?_
    refine w_iload_n dX12_sends_103 rfl ?_
    obtain ⟨g7, k⟩ := k
    refine w_iastore dX12_sends_104 g4 g7 ?_
    refine w_aload_n dX12_sends_105 rfl ?_
    refine w_getR dX12_sends_106 f_12_117 t_12_37 g1 ?_
    refine w_iload dX12_sends_109 rfl ?_
    refine w_iconst dX12_sends_111 i1_3 ?_
    refine w_iadd dX12_sends_112 ?_
    refine w_iload dX12_sends_113 rfl ?_
    obtain ⟨g8, k⟩ := k
    refine w_iastore dX12_sends_115 g4 g8 ?_
    refine w_aload_n dX12_sends_116 rfl ?_
    refine w_dup dX12_sends_117 rfl ?_
    refine w_getI dX12_sends_118 f_12_167 t_12_39 g1 ?_
    refine w_iconst dX12_sends_121 i1_1 ?_
    refine w_iadd dX12_sends_122 ?_
    refine w_putI dX12_sends_123 f_12_167 t_12_39 (pf_nf n_12_39) g1 ?_
    refine w_iload dX12_sends_126 rfl ?_
    exact w_ireturn dX12_sends_128 rfl k
  · replace k := k.2 c
    refine w_aload_n dX12_sends_50 rfl ?_
    obtain ⟨g9, k⟩ := k
    refine w_getR dX12_sends_51 f_12_117 t_12_37 g9 ?_
    refine w_iload dX12_sends_54 rfl ?_
    refine w_iload dX12_sends_56 rfl ?_
    refine w_iadd dX12_sends_58 ?_
    refine w_iconst dX12_sends_59 i1_0 ?_
    obtain ⟨g10, k⟩ := k
    obtain ⟨g11, k⟩ := k
    refine w_iastore dX12_sends_60 g10 g11 ?_
    refine w_iinc (lo' := [some (.ref v0), some (.int v1), some (.int v2), some (.int v3), some (.int v4), some (.int v5), some (.int (v6 + (1 : Int32)))]) dX12_sends_61 rfl i1_1 rfl ?_
    refine w_goto (pc' := 43) dX12_sends_64 rfl rfl ?_
    exact k
theorem bX12_leaves_0 {d : Nat} {h : HP} {Q : Out → HP → Prop} {v0 : Nat} {v1 : Int32} {u2 : Option Value} (k : WP d mX12_leaves 5 [some (.ref v0), some (.int v1), some (.int ((24 : Int32) * v1))] [] h Q) : WP d mX12_leaves 0 [some (.ref v0), some (.int v1), u2] [] h Q := by
  refine w_bipush dX12_leaves_0 i2_24 ?_
  refine w_iload_n dX12_leaves_2 rfl ?_
  refine w_imul dX12_leaves_3 ?_
  refine w_istore_n (lo' := [some (.ref v0), some (.int v1), some (.int ((24 : Int32) * v1))]) dX12_leaves_4 (ltQ rfl) rfl ?_
  exact k
theorem bX12_leaves_5 {d : Nat} {h : HP} {Q : Out → HP → Prop} {v0 : Nat} {v1 : Int32} {v2 : Int32} (k : (hK h v0 = 12) ∧ (((((24 : Int32) * ((hI h 1239 v0) - (1 : Int32))) ≤ v2) → WP d mX12_leaves 41 [some (.ref v0), some (.int v1), some (.int v1)] [] h Q) ∧ ((¬ (((24 : Int32) * ((hI h 1239 v0) - (1 : Int32))) ≤ v2)) → (hK h (hR h 1237 v0) = 20) ∧ ((inA h (hR h 1237 v0) (v2 + (24 : Int32)) = true) ∧ ((inA h (hR h 1237 v0) v2 = true) ∧ (WP d mX12_leaves 5 [some (.ref v0), some (.int v1), some (.int (v2 + (1 : Int32)))] [] (sAI h (hR h 1237 v0) (v2).toNatClampNeg (hAI h (hR h 1237 v0) ((v2 + (24 : Int32))).toNatClampNeg)) Q)))))) : WP d mX12_leaves 5 [some (.ref v0), some (.int v1), some (.int v2)] [] h Q := by
  refine w_iload_n dX12_leaves_5 rfl ?_
  refine w_bipush dX12_leaves_6 i2_24 ?_
  refine w_aload_n dX12_leaves_8 rfl ?_
  obtain ⟨g1, k⟩ := k
  refine w_getI dX12_leaves_9 f_12_167 t_12_39 g1 ?_
  refine w_iconst dX12_leaves_12 i1_1 ?_
  refine w_isub dX12_leaves_13 ?_
  refine w_imul dX12_leaves_14 ?_
  refine w_ic_ge (pc' := 39) dX12_leaves_15 rfl rfl ⟨fun c => ?_, fun c => ?_⟩
  · replace k := k.1 c
    refine w_iload_n dX12_leaves_39 rfl ?_
    refine w_istore_n (lo' := [some (.ref v0), some (.int v1), some (.int v1)]) dX12_leaves_40 (ltQ rfl) rfl ?_
    exact k
  · replace k := k.2 c
    refine w_aload_n dX12_leaves_18 rfl ?_
    refine w_getR dX12_leaves_19 f_12_117 t_12_37 g1 ?_
    refine w_iload_n dX12_leaves_22 rfl ?_
    refine w_aload_n dX12_leaves_23 rfl ?_
    refine w_getR dX12_leaves_24 f_12_117 t_12_37 g1 ?_
    refine w_iload_n dX12_leaves_27 rfl ?_
    refine w_bipush dX12_leaves_28 i2_24 ?_
    refine w_iadd dX12_leaves_30 ?_
    obtain ⟨g2, k⟩ := k
    obtain ⟨g3, k⟩ := k
    refine w_iaload dX12_leaves_31 g2 g3 ?_
    obtain ⟨g4, k⟩ := k
    refine w_iastore dX12_leaves_32 g2 g4 ?_
    refine w_iinc (lo' := [some (.ref v0), some (.int v1), some (.int (v2 + (1 : Int32)))]) dX12_leaves_33 rfl i1_1 rfl ?_
    refine w_goto (pc' := 5) dX12_leaves_36 rfl rfl ?_
    exact k
theorem bX12_leaves_41 {d : Nat} {h : HP} {Q : Out → HP → Prop} {v0 : Nat} {v1 : Int32} {v2 : Int32} (k : (hK h v0 = 12) ∧ (((((hI h 1239 v0) - (1 : Int32)) ≤ v2) → Q (.inl none) (sI h 1239 v0 ((hI h 1239 v0) - (1 : Int32)))) ∧ ((¬ (((hI h 1239 v0) - (1 : Int32)) ≤ v2)) → (hK h (hR h 1238 v0) = 22) ∧ ((inA h (hR h 1238 v0) (v2 + (1 : Int32)) = true) ∧ ((inA h (hR h 1238 v0) v2 = true) ∧ (WP d mX12_leaves 41 [some (.ref v0), some (.int v1), some (.int (v2 + (1 : Int32)))] [] (sAF h (hR h 1238 v0) (v2).toNatClampNeg (hAF h (hR h 1238 v0) ((v2 + (1 : Int32))).toNatClampNeg)) Q)))))) : WP d mX12_leaves 41 [some (.ref v0), some (.int v1), some (.int v2)] [] h Q := by
  refine w_iload_n dX12_leaves_41 rfl ?_
  refine w_aload_n dX12_leaves_42 rfl ?_
  obtain ⟨g1, k⟩ := k
  refine w_getI dX12_leaves_43 f_12_167 t_12_39 g1 ?_
  refine w_iconst dX12_leaves_46 i1_1 ?_
  refine w_isub dX12_leaves_47 ?_
  refine w_ic_ge (pc' := 71) dX12_leaves_48 rfl rfl ⟨fun c => ?_, fun c => ?_⟩
  · replace k := k.1 c
    refine w_aload_n dX12_leaves_71 rfl ?_
    refine w_dup dX12_leaves_72 rfl ?_
    refine w_getI dX12_leaves_73 f_12_167 t_12_39 g1 ?_
    refine w_iconst dX12_leaves_76 i1_1 ?_
    refine w_isub dX12_leaves_77 ?_
    refine w_putI dX12_leaves_78 f_12_167 t_12_39 (pf_nf n_12_39) g1 ?_
    exact w_return dX12_leaves_81 rfl k
  · replace k := k.2 c
    refine w_aload_n dX12_leaves_51 rfl ?_
    refine w_getR dX12_leaves_52 f_12_120 t_12_38 g1 ?_
    refine w_iload_n dX12_leaves_55 rfl ?_
    refine w_aload_n dX12_leaves_56 rfl ?_
    refine w_getR dX12_leaves_57 f_12_120 t_12_38 g1 ?_
    refine w_iload_n dX12_leaves_60 rfl ?_
    refine w_iconst dX12_leaves_61 i1_1 ?_
    refine w_iadd dX12_leaves_62 ?_
    obtain ⟨g2, k⟩ := k
    obtain ⟨g3, k⟩ := k
    refine w_faload dX12_leaves_63 g2 g3 ?_
    obtain ⟨g4, k⟩ := k
    refine w_fastore dX12_leaves_64 g2 g4 ?_
    refine w_iinc (lo' := [some (.ref v0), some (.int v1), some (.int (v2 + (1 : Int32)))]) dX12_leaves_65 rfl i1_1 rfl ?_
    refine w_goto (pc' := 41) dX12_leaves_68 rfl rfl ?_
    exact k
theorem bX12_isMessage_0 {d : Nat} {h : HP} {Q : Out → HP → Prop} {v0 : Nat} {v1 : Int32} (k : (hK h v0 = 12) ∧ (WP d mX12_in 0 [some (.int v1), some (.int (0 : Int32)), some (.int ((hI h 1239 v0) - (1 : Int32)))] [] h (KK d mX12_isMessage mX12_in 8 [some (.ref v0), some (.int v1)] [] Q))) : WP (d + 1) mX12_isMessage 0 [some (.ref v0), some (.int v1)] [] h Q := by
  refine w_iload_n dX12_isMessage_0 rfl ?_
  refine w_iconst dX12_isMessage_1 i1_0 ?_
  refine w_aload_n dX12_isMessage_2 rfl ?_
  obtain ⟨g1, k⟩ := k
  refine w_getI dX12_isMessage_3 f_12_167 t_12_39 g1 ?_
  refine w_iconst dX12_isMessage_6 i1_1 ?_
  refine w_isub dX12_isMessage_7 ?_
  exact w_stat (as1 := [.int ((hI h 1239 v0) - (1 : Int32)), .int (0 : Int32), .int v1]) (as2 := [.int v1, .int (0 : Int32), .int ((hI h 1239 v0) - (1 : Int32))]) (rest := []) (lo2 := [some (.int v1), some (.int (0 : Int32)), some (.int ((hI h 1239 v0) - (1 : Int32)))]) dX12_isMessage_8 c_12_154 rfl rfl rfl (Nat.le_of_ble_eq_true rfl) (Nat.le_of_ble_eq_true rfl) rfl (Nat.le_of_ble_eq_true rfl) rfl k
theorem bX12_isMessage_11 {d : Nat} {h : HP} {Q : Out → HP → Prop} {v0 : Nat} {v1 : Int32} {s0 : Int32} (k : (isZ s0 = true) ∧ (Q (.inl (some (.int s0))) h)) : WP d mX12_isMessage 11 [some (.ref v0), some (.int v1)] [.int s0] h Q := by
  obtain ⟨g1, k⟩ := k
  exact w_ireturn dX12_isMessage_11 g1 k
theorem bX12_lose_0 {d : Nat} {h : HP} {Q : Out → HP → Prop} {v0 : Nat} {v1 : Int32} (k : (1 < v0) ∧ ((hK h v0 = 12) ∧ (WP d mX12_isMessage 0 [some (.ref v0), some (.int v1)] [] h (KK d mX12_lose mX12_isMessage 3 [some (.ref v0), some (.int v1)] [.ref v0] Q)))) : WP (d + 1) mX12_lose 0 [some (.ref v0), some (.int v1)] [] h Q := by
  refine w_aload_n dX12_lose_0 rfl ?_
  refine w_aload_n dX12_lose_1 rfl ?_
  refine w_iload_n dX12_lose_2 rfl ?_
  obtain ⟨g1, k⟩ := k
  obtain ⟨g2, k⟩ := k
  exact w_virt (as1 := [.int v1, .ref v0]) (as2 := [.ref v0, .int v1]) (rest := [.ref v0]) (lo2 := [some (.ref v0), some (.int v1)]) dX12_lose_3 c_12_195 rfl rfl rfl (Nat.le_of_ble_eq_true rfl) (Nat.le_of_ble_eq_true rfl) rfl (Nat.le_of_ble_eq_true rfl) rfl rfl g1 g2 k
theorem bX12_lose_6 {d : Nat} {h : HP} {Q : Out → HP → Prop} {v0 : Nat} {v1 : Int32} {s0 : Int32} {s1 : Nat} (k : (1 < s1) ∧ ((hK h s1 = 12) ∧ (WP d mX12_goes 0 [some (.ref s1), some (.int s0), some (.int (1 : Int32)), some (.int (1 : Int32))] [] h (KK d mX12_lose mX12_goes 8 [some (.ref v0), some (.int v1)] [] Q)))) : WP (d + 1) mX12_lose 6 [some (.ref v0), some (.int v1)] [.int s0, .ref s1] h Q := by
  refine w_iconst dX12_lose_6 i1_1 ?_
  refine w_iconst dX12_lose_7 i1_1 ?_
  obtain ⟨g1, k⟩ := k
  obtain ⟨g2, k⟩ := k
  exact w_virt (as1 := [.int (1 : Int32), .int (1 : Int32), .int s0, .ref s1]) (as2 := [.ref s1, .int s0, .int (1 : Int32), .int (1 : Int32)]) (rest := []) (lo2 := [some (.ref s1), some (.int s0), some (.int (1 : Int32)), some (.int (1 : Int32))]) dX12_lose_8 c_12_173 rfl rfl rfl (Nat.le_of_ble_eq_true rfl) (Nat.le_of_ble_eq_true rfl) rfl (Nat.le_of_ble_eq_true rfl) rfl rfl g1 g2 k
theorem bX12_lose_11 {d : Nat} {h : HP} {Q : Out → HP → Prop} {v0 : Nat} {v1 : Int32} {s0 : Int32} (k : ((¬ s0 = 0) → (hK h v0 = 12) ∧ ((1 < v0) ∧ (WP d mX12_leaves 0 [some (.ref v0), some (.int v1), none] [] (sI h 1204 v0 ((hI h 1204 v0) + (1 : Int32))) (KK d mX12_lose mX12_leaves 28 [some (.ref v0), some (.int v1)] [] Q)))) ∧ ((¬ (¬ s0 = 0)) → Q (.inl (some (.int (0 : Int32)))) h)) : WP (d + 1) mX12_lose 11 [some (.ref v0), some (.int v1)] [.int s0] h Q := by
  refine w_if_ne (pc' := 16) dX12_lose_11 rfl rfl ⟨fun c => ?_, fun c => ?_⟩
  · replace k := k.1 c
    refine w_aload_n dX12_lose_16 rfl ?_
    refine w_dup dX12_lose_17 rfl ?_
    obtain ⟨g1, k⟩ := k
    refine w_getI dX12_lose_18 f_12_164 t_12_4 g1 ?_
    refine w_iconst dX12_lose_21 i1_1 ?_
    refine w_iadd dX12_lose_22 ?_
    refine w_putI dX12_lose_23 f_12_164 t_12_4 (pf_nf n_12_4) g1 ?_
    refine w_aload_n dX12_lose_26 rfl ?_
    refine w_iload_n dX12_lose_27 rfl ?_
    obtain ⟨g2, k⟩ := k
    exact w_virt (as1 := [.int v1, .ref v0]) (as2 := [.ref v0, .int v1]) (rest := []) (lo2 := [some (.ref v0), some (.int v1), none]) dX12_lose_28 c_12_198 rfl rfl rfl (Nat.le_of_ble_eq_true rfl) (Nat.le_of_ble_eq_true rfl) rfl (Nat.le_of_ble_eq_true rfl) rfl rfl g2 g1 k
  · replace k := k.2 c
    refine w_iconst dX12_lose_14 i1_0 ?_
    exact w_ireturn dX12_lose_15 rfl k
theorem bX12_lose_31 {d : Nat} {h : HP} {Q : Out → HP → Prop} {v0 : Nat} {v1 : Int32} (k : (hK h v0 = 12) ∧ (Q (.inl (some (.int (hI h 1239 v0)))) h)) : WP d mX12_lose 31 [some (.ref v0), some (.int v1)] [] h Q := by
  refine w_aload_n dX12_lose_31 rfl ?_
  obtain ⟨g1, k⟩ := k
  refine w_getI dX12_lose_32 f_12_167 t_12_39 g1 ?_
  exact w_ireturn dX12_lose_35 rfl k
theorem bX12_twice_0 {d : Nat} {h : HP} {Q : Out → HP → Prop} {v0 : Nat} {v1 : Int32} {u2 : Option Value} (k : (1 < v0) ∧ ((hK h v0 = 12) ∧ (WP d mX12_isMessage 0 [some (.ref v0), some (.int v1)] [] h (KK d mX12_twice mX12_isMessage 3 [some (.ref v0), some (.int v1), u2] [.ref v0] Q)))) : WP (d + 1) mX12_twice 0 [some (.ref v0), some (.int v1), u2] [] h Q := by
  refine w_aload_n dX12_twice_0 rfl ?_
  refine w_aload_n dX12_twice_1 rfl ?_
  refine w_iload_n dX12_twice_2 rfl ?_
  obtain ⟨g1, k⟩ := k
  obtain ⟨g2, k⟩ := k
  exact w_virt (as1 := [.int v1, .ref v0]) (as2 := [.ref v0, .int v1]) (rest := [.ref v0]) (lo2 := [some (.ref v0), some (.int v1)]) dX12_twice_3 c_12_195 rfl rfl rfl (Nat.le_of_ble_eq_true rfl) (Nat.le_of_ble_eq_true rfl) rfl (Nat.le_of_ble_eq_true rfl) rfl rfl g1 g2 k
theorem bX12_twice_6 {d : Nat} {h : HP} {Q : Out → HP → Prop} {v0 : Nat} {v1 : Int32} {u2 : Option Value} {s0 : Int32} {s1 : Nat} (k : (1 < s1) ∧ ((hK h s1 = 12) ∧ (WP d mX12_goes 0 [some (.ref s1), some (.int s0), some (.int (1 : Int32)), some (.int (1 : Int32))] [] h (KK d mX12_twice mX12_goes 8 [some (.ref v0), some (.int v1), u2] [] Q)))) : WP (d + 1) mX12_twice 6 [some (.ref v0), some (.int v1), u2] [.int s0, .ref s1] h Q := by
  refine w_iconst dX12_twice_6 i1_1 ?_
  refine w_iconst dX12_twice_7 i1_1 ?_
  obtain ⟨g1, k⟩ := k
  obtain ⟨g2, k⟩ := k
  exact w_virt (as1 := [.int (1 : Int32), .int (1 : Int32), .int s0, .ref s1]) (as2 := [.ref s1, .int s0, .int (1 : Int32), .int (1 : Int32)]) (rest := []) (lo2 := [some (.ref s1), some (.int s0), some (.int (1 : Int32)), some (.int (1 : Int32))]) dX12_twice_8 c_12_173 rfl rfl rfl (Nat.le_of_ble_eq_true rfl) (Nat.le_of_ble_eq_true rfl) rfl (Nat.le_of_ble_eq_true rfl) rfl rfl g1 g2 k
theorem bX12_twice_11 {d : Nat} {h : HP} {Q : Out → HP → Prop} {v0 : Nat} {v1 : Int32} {u2 : Option Value} {s0 : Int32} (k : ((¬ s0 = 0) → (hK h v0 = 12) ∧ ((((60 : Int32) ≤ (hI (sI h 1204 v0 ((hI h 1204 v0) + (1 : Int32))) 1239 v0)) → Q (.inl (some (.int (hI (sI h 1204 v0 ((hI h 1204 v0) + (1 : Int32))) 1239 v0)))) (sI h 1204 v0 ((hI h 1204 v0) + (1 : Int32)))) ∧ ((¬ ((60 : Int32) ≤ (hI (sI h 1204 v0 ((hI h 1204 v0) + (1 : Int32))) 1239 v0))) → WP d mX12_twice 37 [some (.ref v0), some (.int v1), some (.int (0 : Int32))] [] (sI h 1204 v0 ((hI h 1204 v0) + (1 : Int32))) Q))) ∧ ((¬ (¬ s0 = 0)) → Q (.inl (some (.int (0 : Int32)))) h)) : WP d mX12_twice 11 [some (.ref v0), some (.int v1), u2] [.int s0] h Q := by
  refine w_if_ne (pc' := 16) dX12_twice_11 rfl rfl ⟨fun c => ?_, fun c => ?_⟩
  · replace k := k.1 c
    refine w_aload_n dX12_twice_16 rfl ?_
    refine w_dup dX12_twice_17 rfl ?_
    obtain ⟨g1, k⟩ := k
    refine w_getI dX12_twice_18 f_12_164 t_12_4 g1 ?_
    refine w_iconst dX12_twice_21 i1_1 ?_
    refine w_iadd dX12_twice_22 ?_
    refine w_putI dX12_twice_23 f_12_164 t_12_4 (pf_nf n_12_4) g1 ?_
    refine w_aload_n dX12_twice_26 rfl ?_
    refine w_getI dX12_twice_27 f_12_167 t_12_39 g1 ?_
    refine w_bipush dX12_twice_30 i2_60 ?_
    refine w_ic_ge (pc' := 99) dX12_twice_32 rfl rfl ⟨fun c => ?_, fun c => ?_⟩
    · replace k := k.1 c
      refine w_aload_n dX12_twice_99 rfl ?_
      refine w_getI dX12_twice_100 f_12_167 t_12_39 g1 ?_
      exact w_ireturn dX12_twice_103 rfl k
    · replace k := k.2 c
      refine w_iconst dX12_twice_35 i1_0 ?_
      refine w_istore_n (lo' := [some (.ref v0), some (.int v1), some (.int (0 : Int32))]) dX12_twice_36 (ltQ rfl) rfl ?_
      exact k
  · replace k := k.2 c
    refine w_iconst dX12_twice_14 i1_0 ?_
    exact w_ireturn dX12_twice_15 rfl k
theorem bX12_twice_37 {d : Nat} {h : HP} {Q : Out → HP → Prop} {v0 : Nat} {v1 : Int32} {v2 : Int32} (k : (((24 : Int32) ≤ v2) → (hK h v0 = 12) ∧ ((hK h (hR h 1238 v0) = 22) ∧ ((inA h (hR h 1238 v0) v1 = true) ∧ ((inA h (hR h 1238 v0) (hI h 1239 v0) = true) ∧ (Q (.inl (some (.int (hI (sI (sAF h (hR h 1238 v0) ((hI h 1239 v0)).toNatClampNeg (hAF h (hR h 1238 v0) (v1).toNatClampNeg)) 1239 v0 ((hI h 1239 v0) + (1 : Int32))) 1239 v0)))) (sI (sAF h (hR h 1238 v0) ((hI h 1239 v0)).toNatClampNeg (hAF h (hR h 1238 v0) (v1).toNatClampNeg)) 1239 v0 ((hI h 1239 v0) + (1 : Int32)))))))) ∧ ((¬ ((24 : Int32) ≤ v2)) → (hK h v0 = 12) ∧ ((hK h (hR h 1237 v0) = 20) ∧ ((inA h (hR h 1237 v0) (((24 : Int32) * v1) + v2) = true) ∧ ((inA h (hR h 1237 v0) (((24 : Int32) * (hI h 1239 v0)) + v2) = true) ∧ (WP d mX12_twice 37 [some (.ref v0), some (.int v1), some (.int (v2 + (1 : Int32)))] [] (sAI h (hR h 1237 v0) ((((24 : Int32) * (hI h 1239 v0)) + v2)).toNatClampNeg (hAI h (hR h 1237 v0) ((((24 : Int32) * v1) + v2)).toNatClampNeg)) Q)))))) : WP d mX12_twice 37 [some (.ref v0), some (.int v1), some (.int v2)] [] h Q := by
  refine w_iload_n dX12_twice_37 rfl ?_
  refine w_bipush dX12_twice_38 i2_24 ?_
  refine w_ic_ge (pc' := 74) dX12_twice_40 rfl rfl ⟨fun c => ?_, fun c => ?_⟩
  · replace k := k.1 c
    refine w_aload_n dX12_twice_74 rfl ?_
    obtain ⟨g1, k⟩ := k
    refine w_getR dX12_twice_75 f_12_120 t_12_38 g1 ?_
    refine w_aload_n dX12_twice_78 rfl ?_
    refine w_getI dX12_twice_79 f_12_167 t_12_39 g1 ?_
    refine w_aload_n dX12_twice_82 rfl ?_
    refine w_getR dX12_twice_83 f_12_120 t_12_38 g1 ?_
    refine w_iload_n dX12_twice_86 rfl ?_
    obtain ⟨g2, k⟩ := k
    obtain ⟨g3, k⟩ := k
    refine w_faload dX12_twice_87 g2 g3 ?_
    obtain ⟨g4, k⟩ := k
    refine w_fastore dX12_twice_88 g2 g4 ?_
    refine w_aload_n dX12_twice_89 rfl ?_
    refine w_dup dX12_twice_90 rfl ?_
    refine w_getI dX12_twice_91 f_12_167 t_12_39 g1 ?_
    refine w_iconst dX12_twice_94 i1_1 ?_
    refine w_iadd dX12_twice_95 ?_
    refine w_putI dX12_twice_96 f_12_167 t_12_39 (pf_nf n_12_39) g1 ?_
    refine w_aload_n dX12_twice_99 rfl ?_
    refine w_getI dX12_twice_100 f_12_167 t_12_39 g1 ?_
    exact w_ireturn dX12_twice_103 rfl k
  · replace k := k.2 c
    refine w_aload_n dX12_twice_43 rfl ?_
    obtain ⟨g5, k⟩ := k
    refine w_getR dX12_twice_44 f_12_117 t_12_37 g5 ?_
    refine w_bipush dX12_twice_47 i2_24 ?_
    refine w_aload_n dX12_twice_49 rfl ?_
    refine w_getI dX12_twice_50 f_12_167 t_12_39 g5 ?_
    refine w_imul dX12_twice_53 ?_
    refine w_iload_n dX12_twice_54 rfl ?_
    refine w_iadd dX12_twice_55 ?_
    refine w_aload_n dX12_twice_56 rfl ?_
    refine w_getR dX12_twice_57 f_12_117 t_12_37 g5 ?_
    refine w_bipush dX12_twice_60 i2_24 ?_
    refine w_iload_n dX12_twice_62 rfl ?_
    refine w_imul dX12_twice_63 ?_
    refine w_iload_n dX12_twice_64 rfl ?_
    refine w_iadd dX12_twice_65 ?_
    obtain ⟨g6, k⟩ := k
    obtain ⟨g7, k⟩ := k
    refine w_iaload dX12_twice_66 g6 g7 ?_
    obtain ⟨g8, k⟩ := k
    refine w_iastore dX12_twice_67 g6 g8 ?_
    refine w_iinc (lo' := [some (.ref v0), some (.int v1), some (.int (v2 + (1 : Int32)))]) dX12_twice_68 rfl i1_1 rfl ?_
    refine w_goto (pc' := 37) dX12_twice_71 rfl rfl ?_
    exact k
theorem bX12_deliver_0 {d : Nat} {h : HP} {Q : Out → HP → Prop} {v0 : Nat} {v1 : Int32} {u2 : Option Value} {u3 : Option Value} {u4 : Option Value} {u5 : Option Value} {u6 : Option Value} (k : (1 < v0) ∧ ((hK h v0 = 12) ∧ (WP d mX12_isMessage 0 [some (.ref v0), some (.int v1)] [] h (KK d mX12_deliver mX12_isMessage 2 [some (.ref v0), some (.int v1), u2, u3, u4, u5, u6] [] Q)))) : WP (d + 1) mX12_deliver 0 [some (.ref v0), some (.int v1), u2, u3, u4, u5, u6] [] h Q := by
  refine w_aload_n dX12_deliver_0 rfl ?_
  refine w_iload_n dX12_deliver_1 rfl ?_
  obtain ⟨g1, k⟩ := k
  obtain ⟨g2, k⟩ := k
  exact w_virt (as1 := [.int v1, .ref v0]) (as2 := [.ref v0, .int v1]) (rest := []) (lo2 := [some (.ref v0), some (.int v1)]) dX12_deliver_2 c_12_195 rfl rfl rfl (Nat.le_of_ble_eq_true rfl) (Nat.le_of_ble_eq_true rfl) rfl (Nat.le_of_ble_eq_true rfl) rfl rfl g1 g2 k
theorem bX12_deliver_5 {d : Nat} {h : HP} {Q : Out → HP → Prop} {v0 : Nat} {v1 : Int32} {u2 : Option Value} {u3 : Option Value} {u4 : Option Value} {u5 : Option Value} {u6 : Option Value} {s0 : Int32} (k : ((s0 = 0) → (1 < v0) ∧ ((hK h v0 = 12) ∧ (WP d mX12_goes 0 [some (.ref v0), some (.int s0), some (.int (0 : Int32)), some (.int (1 : Int32))] [] h (KK d mX12_deliver mX12_goes 72 [some (.ref v0), some (.int v1), some (.int s0), some (.int (0 : Int32)), u4, u5, u6] [] Q)))) ∧ ((¬ (s0 = 0)) → (hK h v0 = 12) ∧ ((hK h (hR h 1237 v0) = 20) ∧ ((inA h (hR h 1237 v0) (((24 : Int32) * v1) + (2 : Int32)) = true) ∧ ((hK h (hR h 1205 v0) = 21) ∧ ((inA h (hR h 1205 v0) (hAI h (hR h 1237 v0) ((((24 : Int32) * v1) + (2 : Int32))).toNatClampNeg) = true) ∧ ((((hAI h (hR h 1205 v0) ((hAI h (hR h 1237 v0) ((((24 : Int32) * v1) + (2 : Int32))).toNatClampNeg)).toNatClampNeg) = 0) → (1 < v0) ∧ (WP d mX12_goes 0 [some (.ref v0), some (.int s0), some (.int (0 : Int32)), some (.int (1 : Int32))] [] h (KK d mX12_deliver mX12_goes 72 [some (.ref v0), some (.int v1), some (.int s0), some (.int (0 : Int32)), u4, u5, u6] [] Q))) ∧ ((¬ ((hAI h (hR h 1205 v0) ((hAI h (hR h 1237 v0) ((((24 : Int32) * v1) + (2 : Int32))).toNatClampNeg)).toNatClampNeg) = 0)) → (inA h (hR h 1237 v0) (((24 : Int32) * v1) + (1 : Int32)) = true) ∧ ((hK h (hR h 1206 v0) = 21) ∧ ((inA h (hR h 1206 v0) (((5 : Int32) * (hAI h (hR h 1237 v0) ((((24 : Int32) * v1) + (1 : Int32))).toNatClampNeg)) + (hAI h (hR h 1237 v0) ((((24 : Int32) * v1) + (2 : Int32))).toNatClampNeg)) = true) ∧ (((¬ (hAI h (hR h 1206 v0) ((((5 : Int32) * (hAI h (hR h 1237 v0) ((((24 : Int32) * v1) + (1 : Int32))).toNatClampNeg)) + (hAI h (hR h 1237 v0) ((((24 : Int32) * v1) + (2 : Int32))).toNatClampNeg))).toNatClampNeg) = 0) → (1 < v0) ∧ (WP d mX12_goes 0 [some (.ref v0), some (.int s0), some (.int (0 : Int32)), some (.int (1 : Int32))] [] h (KK d mX12_deliver mX12_goes 72 [some (.ref v0), some (.int v1), some (.int s0), some (.int (0 : Int32)), u4, u5, u6] [] Q))) ∧ ((¬ (¬ (hAI h (hR h 1206 v0) ((((5 : Int32) * (hAI h (hR h 1237 v0) ((((24 : Int32) * v1) + (1 : Int32))).toNatClampNeg)) + (hAI h (hR h 1237 v0) ((((24 : Int32) * v1) + (2 : Int32))).toNatClampNeg))).toNatClampNeg) = 0)) → (1 < v0) ∧ (WP d mX12_goes 0 [some (.ref v0), some (.int s0), some (.int (1 : Int32)), some (.int (1 : Int32))] [] h (KK d mX12_deliver mX12_goes 72 [some (.ref v0), some (.int v1), some (.int s0), some (.int (1 : Int32)), u4, u5, u6] [] Q)))))))))))))) : WP (d + 1) mX12_deliver 5 [some (.ref v0), some (.int v1), u2, u3, u4, u5, u6] [.int s0] h Q := by
  refine w_istore_n (lo' := [some (.ref v0), some (.int v1), some (.int s0), u3, u4, u5, u6]) dX12_deliver_5 (ltQ rfl) rfl ?_
  refine w_iload_n dX12_deliver_6 rfl ?_
  refine w_if_eq (pc' := 66) dX12_deliver_7 rfl rfl ⟨fun c => ?_, fun c => ?_⟩
  · replace k := k.1 c
    refine w_iconst dX12_deliver_66 i1_0 ?_
    refine w_istore_n (lo' := [some (.ref v0), some (.int v1), some (.int s0), some (.int (0 : Int32)), u4, u5, u6]) dX12_deliver_67 (ltQ rfl) rfl ?_
    refine w_aload_n dX12_deliver_68 rfl ?_
    refine w_iload_n dX12_deliver_69 rfl ?_
    refine w_iload_n dX12_deliver_70 rfl ?_
    refine w_iconst dX12_deliver_71 i1_1 ?_
    obtain ⟨g1, k⟩ := k
    obtain ⟨g2, k⟩ := k
    exact w_virt (as1 := [.int (1 : Int32), .int (0 : Int32), .int s0, .ref v0]) (as2 := [.ref v0, .int s0, .int (0 : Int32), .int (1 : Int32)]) (rest := []) (lo2 := [some (.ref v0), some (.int s0), some (.int (0 : Int32)), some (.int (1 : Int32))]) dX12_deliver_72 c_12_173 rfl rfl rfl (Nat.le_of_ble_eq_true rfl) (Nat.le_of_ble_eq_true rfl) rfl (Nat.le_of_ble_eq_true rfl) rfl rfl g1 g2 k
  · replace k := k.2 c
    refine w_aload_n dX12_deliver_10 rfl ?_
    obtain ⟨g3, k⟩ := k
    refine w_getR dX12_deliver_11 f_12_18 t_12_5 g3 ?_
    refine w_aload_n dX12_deliver_14 rfl ?_
    refine w_getR dX12_deliver_15 f_12_117 t_12_37 g3 ?_
    refine w_bipush dX12_deliver_18 i2_24 ?_
    refine w_iload_n dX12_deliver_20 rfl ?_
    refine w_imul dX12_deliver_21 ?_
    refine w_iconst dX12_deliver_22 i1_2 ?_
    refine w_iadd dX12_deliver_23 ?_
    obtain ⟨g4, k⟩ := k
    obtain ⟨g5, k⟩ := k
    refine w_iaload dX12_deliver_24 g4 g5 ?_
    obtain ⟨g6, k⟩ := k
    obtain ⟨g7, k⟩ := k
    refine w_baload dX12_deliver_25 g6 g7 ?_
    refine w_if_eq (pc' := 66) dX12_deliver_26 rfl rfl ⟨fun c => ?_, fun c => ?_⟩
    · replace k := k.1 c
      refine w_iconst dX12_deliver_66 i1_0 ?_
      refine w_istore_n (lo' := [some (.ref v0), some (.int v1), some (.int s0), some (.int (0 : Int32)), u4, u5, u6]) dX12_deliver_67 (ltQ rfl) rfl ?_
      refine w_aload_n dX12_deliver_68 rfl ?_
      refine w_iload_n dX12_deliver_69 rfl ?_
      refine w_iload_n dX12_deliver_70 rfl ?_
      refine w_iconst dX12_deliver_71 i1_1 ?_
      obtain ⟨g8, k⟩ := k
      exact w_virt (as1 := [.int (1 : Int32), .int (0 : Int32), .int s0, .ref v0]) (as2 := [.ref v0, .int s0, .int (0 : Int32), .int (1 : Int32)]) (rest := []) (lo2 := [some (.ref v0), some (.int s0), some (.int (0 : Int32)), some (.int (1 : Int32))]) dX12_deliver_72 c_12_173 rfl rfl rfl (Nat.le_of_ble_eq_true rfl) (Nat.le_of_ble_eq_true rfl) rfl (Nat.le_of_ble_eq_true rfl) rfl rfl g8 g3 k
    · replace k := k.2 c
      refine w_aload_n dX12_deliver_29 rfl ?_
      refine w_getR dX12_deliver_30 f_12_22 t_12_6 g3 ?_
      refine w_iconst dX12_deliver_33 i1_5 ?_
      refine w_aload_n dX12_deliver_34 rfl ?_
      refine w_getR dX12_deliver_35 f_12_117 t_12_37 g3 ?_
      refine w_bipush dX12_deliver_38 i2_24 ?_
      refine w_iload_n dX12_deliver_40 rfl ?_
      refine w_imul dX12_deliver_41 ?_
      refine w_iconst dX12_deliver_42 i1_1 ?_
      refine w_iadd dX12_deliver_43 ?_
      obtain ⟨g9, k⟩ := k
      refine w_iaload dX12_deliver_44 g4 g9 ?_
      refine w_imul dX12_deliver_45 ?_
      refine w_aload_n dX12_deliver_46 rfl ?_
      refine w_getR dX12_deliver_47 f_12_117 t_12_37 g3 ?_
      refine w_bipush dX12_deliver_50 i2_24 ?_
      refine w_iload_n dX12_deliver_52 rfl ?_
      refine w_imul dX12_deliver_53 ?_
      refine w_iconst dX12_deliver_54 i1_2 ?_
      refine w_iadd dX12_deliver_55 ?_
      refine w_iaload dX12_deliver_56 g4 g5 ?_
      refine w_iadd dX12_deliver_57 ?_
      obtain ⟨g10, k⟩ := k
      obtain ⟨g11, k⟩ := k
      refine w_baload dX12_deliver_58 g10 g11 ?_
      refine w_if_ne (pc' := 66) dX12_deliver_59 rfl rfl ⟨fun c => ?_, fun c => ?_⟩
      · replace k := k.1 c
        refine w_iconst dX12_deliver_66 i1_0 ?_
        refine w_istore_n (lo' := [some (.ref v0), some (.int v1), some (.int s0), some (.int (0 : Int32)), u4, u5, u6]) dX12_deliver_67 (ltQ rfl) rfl ?_
        refine w_aload_n dX12_deliver_68 rfl ?_
        refine w_iload_n dX12_deliver_69 rfl ?_
        refine w_iload_n dX12_deliver_70 rfl ?_
        refine w_iconst dX12_deliver_71 i1_1 ?_
        obtain ⟨g12, k⟩ := k
        exact w_virt (as1 := [.int (1 : Int32), .int (0 : Int32), .int s0, .ref v0]) (as2 := [.ref v0, .int s0, .int (0 : Int32), .int (1 : Int32)]) (rest := []) (lo2 := [some (.ref v0), some (.int s0), some (.int (0 : Int32)), some (.int (1 : Int32))]) dX12_deliver_72 c_12_173 rfl rfl rfl (Nat.le_of_ble_eq_true rfl) (Nat.le_of_ble_eq_true rfl) rfl (Nat.le_of_ble_eq_true rfl) rfl rfl g12 g3 k
      · replace k := k.2 c
        refine w_iconst dX12_deliver_62 i1_1 ?_
        refine w_goto (pc' := 67) dX12_deliver_63 rfl rfl ?_
        refine w_istore_n (lo' := [some (.ref v0), some (.int v1), some (.int s0), some (.int (1 : Int32)), u4, u5, u6]) dX12_deliver_67 (ltQ rfl) rfl ?_
        refine w_aload_n dX12_deliver_68 rfl ?_
        refine w_iload_n dX12_deliver_69 rfl ?_
        refine w_iload_n dX12_deliver_70 rfl ?_
        refine w_iconst dX12_deliver_71 i1_1 ?_
        obtain ⟨g13, k⟩ := k
        exact w_virt (as1 := [.int (1 : Int32), .int (1 : Int32), .int s0, .ref v0]) (as2 := [.ref v0, .int s0, .int (1 : Int32), .int (1 : Int32)]) (rest := []) (lo2 := [some (.ref v0), some (.int s0), some (.int (1 : Int32)), some (.int (1 : Int32))]) dX12_deliver_72 c_12_173 rfl rfl rfl (Nat.le_of_ble_eq_true rfl) (Nat.le_of_ble_eq_true rfl) rfl (Nat.le_of_ble_eq_true rfl) rfl rfl g13 g3 k
theorem bX12_deliver_75 {d : Nat} {h : HP} {Q : Out → HP → Prop} {v0 : Nat} {v1 : Int32} {v2 : Int32} {v3 : Int32} {u4 : Option Value} {u5 : Option Value} {u6 : Option Value} {s0 : Int32} (k : ((¬ s0 = 0) → (hK h v0 = 12) ∧ (WP d mX12_deliver 98 [some (.ref v0), some (.int v1), some (.int v2), some (.int v3), some (.int (0 : Int32)), u5, u6] [] (sI (sI h 1204 v0 ((hI h 1204 v0) + (1 : Int32))) 1240 v0 (0 : Int32)) Q)) ∧ ((¬ (¬ s0 = 0)) → Q (.inl (some (.int (0 : Int32)))) h)) : WP d mX12_deliver 75 [some (.ref v0), some (.int v1), some (.int v2), some (.int v3), u4, u5, u6] [.int s0] h Q := by
  refine w_if_ne (pc' := 80) dX12_deliver_75 rfl rfl ⟨fun c => ?_, fun c => ?_⟩
  · replace k := k.1 c
    refine w_aload_n dX12_deliver_80 rfl ?_
    refine w_dup dX12_deliver_81 rfl ?_
    obtain ⟨g1, k⟩ := k
    refine w_getI dX12_deliver_82 f_12_164 t_12_4 g1 ?_
    refine w_iconst dX12_deliver_85 i1_1 ?_
    refine w_iadd dX12_deliver_86 ?_
    refine w_putI dX12_deliver_87 f_12_164 t_12_4 (pf_nf n_12_4) g1 ?_
    refine w_aload_n dX12_deliver_90 rfl ?_
    refine w_iconst dX12_deliver_91 i1_0 ?_
    refine w_putI dX12_deliver_92 f_12_192 t_12_40 (pf_nf n_12_40) g1 ?_
    refine w_iconst dX12_deliver_95 i1_0 ?_
    refine w_istore (lo' := [some (.ref v0), some (.int v1), some (.int v2), some (.int v3), some (.int (0 : Int32)), u5, u6]) dX12_deliver_96 (ltQ rfl) rfl ?_
    exact k
  · replace k := k.2 c
    refine w_iconst dX12_deliver_78 i1_0 ?_
    exact w_ireturn dX12_deliver_79 rfl k
theorem bX12_deliver_98 {d : Nat} {h : HP} {Q : Out → HP → Prop} {v0 : Nat} {v1 : Int32} {v2 : Int32} {v3 : Int32} {v4 : Int32} {u5 : Option Value} {u6 : Option Value} (k : (((24 : Int32) ≤ v4) → (hK h v0 = 12) ∧ ((hK h (hR h 1238 v0) = 22) ∧ ((inA h (hR h 1238 v0) v1 = true) ∧ ((1 < v0) ∧ (WP d mX12_leaves 0 [some (.ref v0), some (.int v1), none] [] h (KK d mX12_deliver mX12_leaves 140 [some (.ref v0), some (.int v1), some (.int v2), some (.int v3), some (.float (hAF h (hR h 1238 v0) (v1).toNatClampNeg)), u5, u6] [] Q)))))) ∧ ((¬ ((24 : Int32) ≤ v4)) → (hK h v0 = 12) ∧ ((hK h (hR h 1237 v0) = 20) ∧ ((inA h (hR h 1237 v0) (((24 : Int32) * v1) + v4) = true) ∧ ((hK h (hR h 1249 v0) = 20) ∧ ((inA h (hR h 1249 v0) v4 = true) ∧ (WP (d + 1) mX12_deliver 98 [some (.ref v0), some (.int v1), some (.int v2), some (.int v3), some (.int (v4 + (1 : Int32))), u5, u6] [] (sAI h (hR h 1249 v0) (v4).toNatClampNeg (hAI h (hR h 1237 v0) ((((24 : Int32) * v1) + v4)).toNatClampNeg)) Q))))))) : WP (d + 1) mX12_deliver 98 [some (.ref v0), some (.int v1), some (.int v2), some (.int v3), some (.int v4), u5, u6] [] h Q := by
  refine w_iload dX12_deliver_98 rfl ?_
  refine w_bipush dX12_deliver_100 i2_24 ?_
  refine w_ic_ge (pc' := 130) dX12_deliver_102 rfl rfl ⟨fun c => ?_, fun c => ?_⟩
  · replace k := k.1 c
    refine w_aload_n dX12_deliver_130 rfl ?_
    obtain ⟨g1, k⟩ := k
    refine w_getR dX12_deliver_131 f_12_120 t_12_38 g1 ?_
    refine w_iload_n dX12_deliver_134 rfl ?_
    obtain ⟨g2, k⟩ := k
    obtain ⟨g3, k⟩ := k
    refine w_faload dX12_deliver_135 g2 g3 ?_
    refine w_fstore (lo' := [some (.ref v0), some (.int v1), some (.int v2), some (.int v3), some (.float (hAF h (hR h 1238 v0) (v1).toNatClampNeg)), u5, u6]) dX12_deliver_136 (ltQ rfl) rfl ?_
    refine w_aload_n dX12_deliver_138 rfl ?_
    refine w_iload_n dX12_deliver_139 rfl ?_
    obtain ⟨g4, k⟩ := k
    exact w_virt (as1 := [.int v1, .ref v0]) (as2 := [.ref v0, .int v1]) (rest := []) (lo2 := [some (.ref v0), some (.int v1), none]) dX12_deliver_140 c_12_198 rfl rfl rfl (Nat.le_of_ble_eq_true rfl) (Nat.le_of_ble_eq_true rfl) rfl (Nat.le_of_ble_eq_true rfl) rfl rfl g4 g1 k
  · replace k := k.2 c
    refine w_aload_n dX12_deliver_105 rfl ?_
    obtain ⟨g5, k⟩ := k
    refine w_getR dX12_deliver_106 f_12_144 t_12_49 g5 ?_
    refine w_iload dX12_deliver_109 rfl ?_
    refine w_aload_n dX12_deliver_111 rfl ?_
    refine w_getR dX12_deliver_112 f_12_117 t_12_37 g5 ?_
    refine w_bipush dX12_deliver_115 i2_24 ?_
    refine w_iload_n dX12_deliver_117 rfl ?_
    refine w_imul dX12_deliver_118 ?_
    refine w_iload dX12_deliver_119 rfl ?_
    refine w_iadd dX12_deliver_121 ?_
    obtain ⟨g6, k⟩ := k
    obtain ⟨g7, k⟩ := k
    refine w_iaload dX12_deliver_122 g6 g7 ?_
    obtain ⟨g8, k⟩ := k
    obtain ⟨g9, k⟩ := k
    refine w_iastore dX12_deliver_123 g8 g9 ?_
    refine w_iinc (lo' := [some (.ref v0), some (.int v1), some (.int v2), some (.int v3), some (.int (v4 + (1 : Int32))), u5, u6]) dX12_deliver_124 rfl i1_1 rfl ?_
    refine w_goto (pc' := 98) dX12_deliver_127 rfl rfl ?_
    exact k
theorem bX12_deliver_143 {d : Nat} {h : HP} {Q : Out → HP → Prop} {v0 : Nat} {v1 : Int32} {v2 : Int32} {v3 : Int32} {v4 : UInt32} {u5 : Option Value} {u6 : Option Value} (k : (hK h v0 = 12) ∧ ((hK h (hR h 1249 v0) = 20) ∧ ((inA h (hR h 1249 v0) (0 : Int32) = true) ∧ ((inA h (hR h 1249 v0) (2 : Int32) = true) ∧ ((((3 : Int32) < (hAI h (hR h 1249 v0) ((0 : Int32)).toNatClampNeg)) → WP (d + 1) mX12_deliver 208 [some (.ref v0), some (.int v1), some (.int v2), some (.int v3), some (.float v4), some (.int (hAI h (hR h 1249 v0) ((0 : Int32)).toNatClampNeg)), some (.int (hAI h (hR h 1249 v0) ((2 : Int32)).toNatClampNeg))] [] h Q) ∧ ((¬ ((3 : Int32) < (hAI h (hR h 1249 v0) ((0 : Int32)).toNatClampNeg))) → (inA h (hR h 1249 v0) (3 : Int32) = true) ∧ ((hK h (hR h 1209 v0) = 20) ∧ ((inA h (hR h 1209 v0) (hAI h (hR h 1249 v0) ((2 : Int32)).toNatClampNeg) = true) ∧ ((((hAI h (hR h 1249 v0) ((3 : Int32)).toNatClampNeg) ≤ (hAI h (hR h 1209 v0) ((hAI h (hR h 1249 v0) ((2 : Int32)).toNatClampNeg)).toNatClampNeg)) → WP (d + 1) mX12_deliver 208 [some (.ref v0), some (.int v1), some (.int v2), some (.int v3), some (.float v4), some (.int (hAI h (hR h 1249 v0) ((0 : Int32)).toNatClampNeg)), some (.int (hAI h (hR h 1249 v0) ((2 : Int32)).toNatClampNeg))] [] h Q) ∧ ((¬ ((hAI h (hR h 1249 v0) ((3 : Int32)).toNatClampNeg) ≤ (hAI h (hR h 1209 v0) ((hAI h (hR h 1249 v0) ((2 : Int32)).toNatClampNeg)).toNatClampNeg))) → (hK h (hR h 1210 v0) = 20) ∧ ((inA h (hR h 1210 v0) (hAI h (hR h 1249 v0) ((2 : Int32)).toNatClampNeg) = true) ∧ ((1 < v0) ∧ (WP d mX12_follows 0 [some (.ref v0), some (.int (hAI h (hR h 1249 v0) ((2 : Int32)).toNatClampNeg))] [] (sAI (sAI h (hR h 1209 v0) ((hAI h (hR h 1249 v0) ((2 : Int32)).toNatClampNeg)).toNatClampNeg (hAI h (hR h 1249 v0) ((3 : Int32)).toNatClampNeg)) (hR h 1210 v0) ((hAI h (hR h 1249 v0) ((2 : Int32)).toNatClampNeg)).toNatClampNeg (-1 : Int32)) (KK d mX12_deliver mX12_follows 205 [some (.ref v0), some (.int v1), some (.int v2), some (.int v3), some (.float v4), some (.int (hAI h (hR h 1249 v0) ((0 : Int32)).toNatClampNeg)), some (.int (hAI h (hR h 1249 v0) ((2 : Int32)).toNatClampNeg))] [] Q)))))))))))))) : WP (d + 1) mX12_deliver 143 [some (.ref v0), some (.int v1), some (.int v2), some (.int v3), some (.float v4), u5, u6] [] h Q := by
  refine w_aload_n dX12_deliver_143 rfl ?_
  obtain ⟨g1, k⟩ := k
  refine w_getR dX12_deliver_144 f_12_144 t_12_49 g1 ?_
  refine w_iconst dX12_deliver_147 i1_0 ?_
  obtain ⟨g2, k⟩ := k
  obtain ⟨g3, k⟩ := k
  refine w_iaload dX12_deliver_148 g2 g3 ?_
  refine w_istore (lo' := [some (.ref v0), some (.int v1), some (.int v2), some (.int v3), some (.float v4), some (.int (hAI h (hR h 1249 v0) ((0 : Int32)).toNatClampNeg)), u6]) dX12_deliver_149 (ltQ rfl) rfl ?_
  refine w_aload_n dX12_deliver_151 rfl ?_
  refine w_getR dX12_deliver_152 f_12_144 t_12_49 g1 ?_
  refine w_iconst dX12_deliver_155 i1_2 ?_
  obtain ⟨g4, k⟩ := k
  refine w_iaload dX12_deliver_156 g2 g4 ?_
  refine w_istore (lo' := [some (.ref v0), some (.int v1), some (.int v2), some (.int v3), some (.float v4), some (.int (hAI h (hR h 1249 v0) ((0 : Int32)).toNatClampNeg)), some (.int (hAI h (hR h 1249 v0) ((2 : Int32)).toNatClampNeg))]) dX12_deliver_157 (ltQ rfl) rfl ?_
  refine w_iload dX12_deliver_159 rfl ?_
  refine w_iconst dX12_deliver_161 i1_3 ?_
  refine w_ic_gt (pc' := 208) dX12_deliver_162 rfl rfl ⟨fun c => ?_, fun c => ?_⟩
  · replace k := k.1 c
    exact k
  · replace k := k.2 c
    refine w_aload_n dX12_deliver_165 rfl ?_
    refine w_getR dX12_deliver_166 f_12_144 t_12_49 g1 ?_
    refine w_iconst dX12_deliver_169 i1_3 ?_
    obtain ⟨g5, k⟩ := k
    refine w_iaload dX12_deliver_170 g2 g5 ?_
    refine w_aload_n dX12_deliver_171 rfl ?_
    refine w_getR dX12_deliver_172 f_12_32 t_12_9 g1 ?_
    refine w_iload dX12_deliver_175 rfl ?_
    obtain ⟨g6, k⟩ := k
    obtain ⟨g7, k⟩ := k
    refine w_iaload dX12_deliver_177 g6 g7 ?_
    refine w_ic_le (pc' := 208) dX12_deliver_178 rfl rfl ⟨fun c => ?_, fun c => ?_⟩
    · replace k := k.1 c
      exact k
    · replace k := k.2 c
      refine w_aload_n dX12_deliver_181 rfl ?_
      refine w_getR dX12_deliver_182 f_12_32 t_12_9 g1 ?_
      refine w_iload dX12_deliver_185 rfl ?_
      refine w_aload_n dX12_deliver_187 rfl ?_
      refine w_getR dX12_deliver_188 f_12_144 t_12_49 g1 ?_
      refine w_iconst dX12_deliver_191 i1_3 ?_
      refine w_iaload dX12_deliver_192 g2 g5 ?_
      refine w_iastore dX12_deliver_193 g6 g7 ?_
      refine w_aload_n dX12_deliver_194 rfl ?_
      refine w_getR dX12_deliver_195 f_12_36 t_12_10 g1 ?_
      refine w_iload dX12_deliver_198 rfl ?_
      refine w_iconst dX12_deliver_200 i1_m1 ?_
      obtain ⟨g8, k⟩ := k
      obtain ⟨g9, k⟩ := k
      refine w_iastore dX12_deliver_201 g8 g9 ?_
      refine w_aload_n dX12_deliver_202 rfl ?_
      refine w_iload dX12_deliver_203 rfl ?_
      obtain ⟨g10, k⟩ := k
      exact w_virt (as1 := [.int (hAI h (hR h 1249 v0) ((2 : Int32)).toNatClampNeg), .ref v0]) (as2 := [.ref v0, .int (hAI h (hR h 1249 v0) ((2 : Int32)).toNatClampNeg)]) (rest := []) (lo2 := [some (.ref v0), some (.int (hAI h (hR h 1249 v0) ((2 : Int32)).toNatClampNeg))]) dX12_deliver_205 c_12_184 rfl rfl rfl (Nat.le_of_ble_eq_true rfl) (Nat.le_of_ble_eq_true rfl) rfl (Nat.le_of_ble_eq_true rfl) rfl rfl g10 g1 k
theorem bX12_deliver_208 {d : Nat} {h : HP} {Q : Out → HP → Prop} {v0 : Nat} {v1 : Int32} {v2 : Int32} {v3 : Int32} {v4 : UInt32} {v5 : Int32} {v6 : Int32} (k : ((v5 = (0 : Int32)) → (1 < v0) ∧ ((hK h v0 = 12) ∧ (WP d mX12_asked 0 [some (.ref v0), some (.int v6), none, none, none, none, none, none] [] h (KK d mX12_deliver mX12_asked 255 [some (.ref v0), some (.int v1), some (.int v2), some (.int v3), some (.float v4), some (.int v5), some (.int v6)] [] Q)))) ∧ ((v5 = (1 : Int32)) → (1 < v0) ∧ ((hK h v0 = 12) ∧ (WP d mX12_voted 0 [some (.ref v0), some (.int v6), none] [] h (KK d mX12_deliver mX12_voted 264 [some (.ref v0), some (.int v1), some (.int v2), some (.int v3), some (.float v4), some (.int v5), some (.int v6)] [] Q)))) ∧ ((v5 = (2 : Int32)) → (1 < v0) ∧ ((hK h v0 = 12) ∧ (WP d mX12_appended 0 [some (.ref v0), some (.int v6), some (.float v4), none, none, none, none, none, none, none] [] h (KK d mX12_deliver mX12_appended 275 [some (.ref v0), some (.int v1), some (.int v2), some (.int v3), some (.float v4), some (.int v5), some (.int v6)] [] Q)))) ∧ ((v5 = (3 : Int32)) → (1 < v0) ∧ ((hK h v0 = 12) ∧ (WP d mX12_acknowledged 0 [some (.ref v0), some (.int v6), some (.float v4), none, none] [] h (KK d mX12_deliver mX12_acknowledged 286 [some (.ref v0), some (.int v1), some (.int v2), some (.int v3), some (.float v4), some (.int v5), some (.int v6)] [] Q)))) ∧ ((v5 = (4 : Int32)) → (1 < v0) ∧ ((hK h v0 = 12) ∧ (WP d mX12_prepared 0 [some (.ref v0), some (.int v6), none, none] [] h (KK d mX12_deliver mX12_prepared 295 [some (.ref v0), some (.int v1), some (.int v2), some (.int v3), some (.float v4), some (.int v5), some (.int v6)] [] Q)))) ∧ ((v5 = (5 : Int32)) → (1 < v0) ∧ ((hK h v0 = 12) ∧ (WP d mX12_promised 0 [some (.ref v0), some (.int v6), none, none, none] [] h (KK d mX12_deliver mX12_promised 304 [some (.ref v0), some (.int v1), some (.int v2), some (.int v3), some (.float v4), some (.int v5), some (.int v6)] [] Q)))) ∧ ((v5 = (6 : Int32)) → (1 < v0) ∧ ((hK h v0 = 12) ∧ (WP d mX12_accepted 0 [some (.ref v0), some (.int v6), none, none] [] h (KK d mX12_deliver mX12_accepted 313 [some (.ref v0), some (.int v1), some (.int v2), some (.int v3), some (.float v4), some (.int v5), some (.int v6)] [] Q)))) ∧ ((¬ v5 = (0 : Int32) ∧ ¬ v5 = (1 : Int32) ∧ ¬ v5 = (2 : Int32) ∧ ¬ v5 = (3 : Int32) ∧ ¬ v5 = (4 : Int32) ∧ ¬ v5 = (5 : Int32) ∧ ¬ v5 = (6 : Int32)) → (1 < v0) ∧ ((hK h v0 = 12) ∧ (WP d mX12_counts 0 [some (.ref v0), some (.int v6), none] [] h (KK d mX12_deliver mX12_counts 322 [some (.ref v0), some (.int v1), some (.int v2), some (.int v3), some (.float v4), some (.int v5), some (.int v6)] [] Q))))) : WP (d + 1) mX12_deliver 208 [some (.ref v0), some (.int v1), some (.int v2), some (.int v3), some (.float v4), some (.int v5), some (.int v6)] [] h Q := by
  refine w_iload dX12_deliver_208 rfl ?_
  by_cases c0 : v5 = (0 : Int32)
  · replace k := k.1 c0
    refine w_tsw (pc' := 252) dX12_deliver_210 (by rw [c0]; rfl) ?_
    refine w_aload_n dX12_deliver_252 rfl ?_
    refine w_iload dX12_deliver_253 rfl ?_
    obtain ⟨g1, k⟩ := k
    obtain ⟨g2, k⟩ := k
    exact w_virt (as1 := [.int v6, .ref v0]) (as2 := [.ref v0, .int v6]) (rest := []) (lo2 := [some (.ref v0), some (.int v6), none, none, none, none, none, none]) dX12_deliver_255 c_12_201 rfl rfl rfl (Nat.le_of_ble_eq_true rfl) (Nat.le_of_ble_eq_true rfl) rfl (Nat.le_of_ble_eq_true rfl) rfl rfl g1 g2 k
  replace k := k.2
  by_cases c1 : v5 = (1 : Int32)
  · replace k := k.1 c1
    refine w_tsw (pc' := 261) dX12_deliver_210 (by rw [c1]; rfl) ?_
    refine w_aload_n dX12_deliver_261 rfl ?_
    refine w_iload dX12_deliver_262 rfl ?_
    obtain ⟨g3, k⟩ := k
    obtain ⟨g4, k⟩ := k
    exact w_virt (as1 := [.int v6, .ref v0]) (as2 := [.ref v0, .int v6]) (rest := []) (lo2 := [some (.ref v0), some (.int v6), none]) dX12_deliver_264 c_12_204 rfl rfl rfl (Nat.le_of_ble_eq_true rfl) (Nat.le_of_ble_eq_true rfl) rfl (Nat.le_of_ble_eq_true rfl) rfl rfl g3 g4 k
  replace k := k.2
  by_cases c2 : v5 = (2 : Int32)
  · replace k := k.1 c2
    refine w_tsw (pc' := 270) dX12_deliver_210 (by rw [c2]; rfl) ?_
    refine w_aload_n dX12_deliver_270 rfl ?_
    refine w_iload dX12_deliver_271 rfl ?_
    refine w_fload dX12_deliver_273 rfl ?_
    obtain ⟨g5, k⟩ := k
    obtain ⟨g6, k⟩ := k
    exact w_virt (as1 := [.float v4, .int v6, .ref v0]) (as2 := [.ref v0, .int v6, .float v4]) (rest := []) (lo2 := [some (.ref v0), some (.int v6), some (.float v4), none, none, none, none, none, none, none]) dX12_deliver_275 c_12_207 rfl rfl rfl (Nat.le_of_ble_eq_true rfl) (Nat.le_of_ble_eq_true rfl) rfl (Nat.le_of_ble_eq_true rfl) rfl rfl g5 g6 k
  replace k := k.2
  by_cases c3 : v5 = (3 : Int32)
  · replace k := k.1 c3
    refine w_tsw (pc' := 281) dX12_deliver_210 (by rw [c3]; rfl) ?_
    refine w_aload_n dX12_deliver_281 rfl ?_
    refine w_iload dX12_deliver_282 rfl ?_
    refine w_fload dX12_deliver_284 rfl ?_
    obtain ⟨g7, k⟩ := k
    obtain ⟨g8, k⟩ := k
    exact w_virt (as1 := [.float v4, .int v6, .ref v0]) (as2 := [.ref v0, .int v6, .float v4]) (rest := []) (lo2 := [some (.ref v0), some (.int v6), some (.float v4), none, none]) dX12_deliver_286 c_12_211 rfl rfl rfl (Nat.le_of_ble_eq_true rfl) (Nat.le_of_ble_eq_true rfl) rfl (Nat.le_of_ble_eq_true rfl) rfl rfl g7 g8 k
  replace k := k.2
  by_cases c4 : v5 = (4 : Int32)
  · replace k := k.1 c4
    refine w_tsw (pc' := 292) dX12_deliver_210 (by rw [c4]; rfl) ?_
    refine w_aload_n dX12_deliver_292 rfl ?_
    refine w_iload dX12_deliver_293 rfl ?_
    obtain ⟨g9, k⟩ := k
    obtain ⟨g10, k⟩ := k
    exact w_virt (as1 := [.int v6, .ref v0]) (as2 := [.ref v0, .int v6]) (rest := []) (lo2 := [some (.ref v0), some (.int v6), none, none]) dX12_deliver_295 c_12_214 rfl rfl rfl (Nat.le_of_ble_eq_true rfl) (Nat.le_of_ble_eq_true rfl) rfl (Nat.le_of_ble_eq_true rfl) rfl rfl g9 g10 k
  replace k := k.2
  by_cases c5 : v5 = (5 : Int32)
  · replace k := k.1 c5
    refine w_tsw (pc' := 301) dX12_deliver_210 (by rw [c5]; rfl) ?_
    refine w_aload_n dX12_deliver_301 rfl ?_
    refine w_iload dX12_deliver_302 rfl ?_
    obtain ⟨g11, k⟩ := k
    obtain ⟨g12, k⟩ := k
    exact w_virt (as1 := [.int v6, .ref v0]) (as2 := [.ref v0, .int v6]) (rest := []) (lo2 := [some (.ref v0), some (.int v6), none, none, none]) dX12_deliver_304 c_12_217 rfl rfl rfl (Nat.le_of_ble_eq_true rfl) (Nat.le_of_ble_eq_true rfl) rfl (Nat.le_of_ble_eq_true rfl) rfl rfl g11 g12 k
  replace k := k.2
  by_cases c6 : v5 = (6 : Int32)
  · replace k := k.1 c6
    refine w_tsw (pc' := 310) dX12_deliver_210 (by rw [c6]; rfl) ?_
    refine w_aload_n dX12_deliver_310 rfl ?_
    refine w_iload dX12_deliver_311 rfl ?_
    obtain ⟨g13, k⟩ := k
    obtain ⟨g14, k⟩ := k
    exact w_virt (as1 := [.int v6, .ref v0]) (as2 := [.ref v0, .int v6]) (rest := []) (lo2 := [some (.ref v0), some (.int v6), none, none]) dX12_deliver_313 c_12_220 rfl rfl rfl (Nat.le_of_ble_eq_true rfl) (Nat.le_of_ble_eq_true rfl) rfl (Nat.le_of_ble_eq_true rfl) rfl rfl g13 g14 k
  replace k := k.2
  have e0 := ts_ne c0 (k := 0) rfl
  have e1 := ts_ne c1 (k := 1) rfl
  have e2 := ts_ne c2 (k := 2) rfl
  have e3 := ts_ne c3 (k := 3) rfl
  have e4 := ts_ne c4 (k := 4) rfl
  have e5 := ts_ne c5 (k := 5) rfl
  have e6 := ts_ne c6 (k := 6) rfl
  replace k := k ⟨c0, c1, c2, c3, c4, c5, c6⟩
  refine w_tsw (pc' := 319) dX12_deliver_210 (ts_def (x := v5) (by omega) rfl rfl) ?_
  refine w_aload_n dX12_deliver_319 rfl ?_
  refine w_iload dX12_deliver_320 rfl ?_
  obtain ⟨g15, k⟩ := k
  obtain ⟨g16, k⟩ := k
  exact w_virt (as1 := [.int v6, .ref v0]) (as2 := [.ref v0, .int v6]) (rest := []) (lo2 := [some (.ref v0), some (.int v6), none]) dX12_deliver_322 c_12_223 rfl rfl rfl (Nat.le_of_ble_eq_true rfl) (Nat.le_of_ble_eq_true rfl) rfl (Nat.le_of_ble_eq_true rfl) rfl rfl g15 g16 k
theorem bX12_deliver_258 {d : Nat} {h : HP} {Q : Out → HP → Prop} {v0 : Nat} {v1 : Int32} {v2 : Int32} {v3 : Int32} {v4 : UInt32} {v5 : Int32} {v6 : Int32} (k : WP d mX12_deliver 325 [some (.ref v0), some (.int v1), some (.int v2), some (.int v3), some (.float v4), some (.int v5), some (.int v6)] [] h Q) : WP d mX12_deliver 258 [some (.ref v0), some (.int v1), some (.int v2), some (.int v3), some (.float v4), some (.int v5), some (.int v6)] [] h Q := by
  refine w_goto (pc' := 325) dX12_deliver_258 rfl rfl ?_
  exact k
theorem bX12_deliver_267 {d : Nat} {h : HP} {Q : Out → HP → Prop} {v0 : Nat} {v1 : Int32} {v2 : Int32} {v3 : Int32} {v4 : UInt32} {v5 : Int32} {v6 : Int32} (k : WP d mX12_deliver 325 [some (.ref v0), some (.int v1), some (.int v2), some (.int v3), some (.float v4), some (.int v5), some (.int v6)] [] h Q) : WP d mX12_deliver 267 [some (.ref v0), some (.int v1), some (.int v2), some (.int v3), some (.float v4), some (.int v5), some (.int v6)] [] h Q := by
  refine w_goto (pc' := 325) dX12_deliver_267 rfl rfl ?_
  exact k
theorem bX12_deliver_278 {d : Nat} {h : HP} {Q : Out → HP → Prop} {v0 : Nat} {v1 : Int32} {v2 : Int32} {v3 : Int32} {v4 : UInt32} {v5 : Int32} {v6 : Int32} (k : WP d mX12_deliver 325 [some (.ref v0), some (.int v1), some (.int v2), some (.int v3), some (.float v4), some (.int v5), some (.int v6)] [] h Q) : WP d mX12_deliver 278 [some (.ref v0), some (.int v1), some (.int v2), some (.int v3), some (.float v4), some (.int v5), some (.int v6)] [] h Q := by
  refine w_goto (pc' := 325) dX12_deliver_278 rfl rfl ?_
  exact k
theorem bX12_deliver_289 {d : Nat} {h : HP} {Q : Out → HP → Prop} {v0 : Nat} {v1 : Int32} {v2 : Int32} {v3 : Int32} {v4 : UInt32} {v5 : Int32} {v6 : Int32} (k : WP d mX12_deliver 325 [some (.ref v0), some (.int v1), some (.int v2), some (.int v3), some (.float v4), some (.int v5), some (.int v6)] [] h Q) : WP d mX12_deliver 289 [some (.ref v0), some (.int v1), some (.int v2), some (.int v3), some (.float v4), some (.int v5), some (.int v6)] [] h Q := by
  refine w_goto (pc' := 325) dX12_deliver_289 rfl rfl ?_
  exact k
theorem bX12_deliver_298 {d : Nat} {h : HP} {Q : Out → HP → Prop} {v0 : Nat} {v1 : Int32} {v2 : Int32} {v3 : Int32} {v4 : UInt32} {v5 : Int32} {v6 : Int32} (k : WP d mX12_deliver 325 [some (.ref v0), some (.int v1), some (.int v2), some (.int v3), some (.float v4), some (.int v5), some (.int v6)] [] h Q) : WP d mX12_deliver 298 [some (.ref v0), some (.int v1), some (.int v2), some (.int v3), some (.float v4), some (.int v5), some (.int v6)] [] h Q := by
  refine w_goto (pc' := 325) dX12_deliver_298 rfl rfl ?_
  exact k
theorem bX12_deliver_307 {d : Nat} {h : HP} {Q : Out → HP → Prop} {v0 : Nat} {v1 : Int32} {v2 : Int32} {v3 : Int32} {v4 : UInt32} {v5 : Int32} {v6 : Int32} (k : WP d mX12_deliver 325 [some (.ref v0), some (.int v1), some (.int v2), some (.int v3), some (.float v4), some (.int v5), some (.int v6)] [] h Q) : WP d mX12_deliver 307 [some (.ref v0), some (.int v1), some (.int v2), some (.int v3), some (.float v4), some (.int v5), some (.int v6)] [] h Q := by
  refine w_goto (pc' := 325) dX12_deliver_307 rfl rfl ?_
  exact k
theorem bX12_deliver_316 {d : Nat} {h : HP} {Q : Out → HP → Prop} {v0 : Nat} {v1 : Int32} {v2 : Int32} {v3 : Int32} {v4 : UInt32} {v5 : Int32} {v6 : Int32} (k : WP d mX12_deliver 325 [some (.ref v0), some (.int v1), some (.int v2), some (.int v3), some (.float v4), some (.int v5), some (.int v6)] [] h Q) : WP d mX12_deliver 316 [some (.ref v0), some (.int v1), some (.int v2), some (.int v3), some (.float v4), some (.int v5), some (.int v6)] [] h Q := by
  refine w_goto (pc' := 325) dX12_deliver_316 rfl rfl ?_
  exact k
theorem bX12_deliver_325 {d : Nat} {h : HP} {Q : Out → HP → Prop} {v0 : Nat} {v1 : Int32} {v2 : Int32} {v3 : Int32} {v4 : UInt32} {v5 : Int32} {v6 : Int32} (k : (1 < v0) ∧ ((hK h v0 = 12) ∧ (WP d mX12_ends 0 [some (.ref v0), none] [] h (KK d mX12_deliver mX12_ends 326 [some (.ref v0), some (.int v1), some (.int v2), some (.int v3), some (.float v4), some (.int v5), some (.int v6)] [] Q)))) : WP (d + 1) mX12_deliver 325 [some (.ref v0), some (.int v1), some (.int v2), some (.int v3), some (.float v4), some (.int v5), some (.int v6)] [] h Q := by
  refine w_aload_n dX12_deliver_325 rfl ?_
  obtain ⟨g1, k⟩ := k
  obtain ⟨g2, k⟩ := k
  exact w_virt (as1 := [.ref v0]) (as2 := [.ref v0]) (rest := []) (lo2 := [some (.ref v0), none]) dX12_deliver_326 c_12_187 rfl rfl rfl (Nat.le_of_ble_eq_true rfl) (Nat.le_of_ble_eq_true rfl) rfl (Nat.le_of_ble_eq_true rfl) rfl rfl g1 g2 k
theorem bX12_deliver_329 {d : Nat} {h : HP} {Q : Out → HP → Prop} {v0 : Nat} {v1 : Int32} {v2 : Int32} {v3 : Int32} {v4 : UInt32} {v5 : Int32} {v6 : Int32} (k : (hK h v0 = 12) ∧ (Q (.inl (some (.int (hI h 1240 v0)))) h)) : WP d mX12_deliver 329 [some (.ref v0), some (.int v1), some (.int v2), some (.int v3), some (.float v4), some (.int v5), some (.int v6)] [] h Q := by
  refine w_aload_n dX12_deliver_329 rfl ?_
  obtain ⟨g1, k⟩ := k
  refine w_getI dX12_deliver_330 f_12_192 t_12_40 g1 ?_
  exact w_ireturn dX12_deliver_333 rfl k
theorem bX12_termAt_0 {d : Nat} {h : HP} {Q : Out → HP → Prop} {v0 : Nat} {v1 : Int32} {v2 : Int32} (k : ((¬ v2 = 0) → (hK h v0 = 12) ∧ ((hK h (hR h 1214 v0) = 20) ∧ ((inA h (hR h 1214 v0) ((((30 : Int32) * v1) + v2) - (1 : Int32)) = true) ∧ (Q (.inl (some (.int (hAI h (hR h 1214 v0) (((((30 : Int32) * v1) + v2) - (1 : Int32))).toNatClampNeg)))) h)))) ∧ ((¬ (¬ v2 = 0)) → Q (.inl (some (.int (0 : Int32)))) h)) : WP d mX12_termAt 0 [some (.ref v0), some (.int v1), some (.int v2)] [] h Q := by
  refine w_iload_n dX12_termAt_0 rfl ?_
  refine w_if_ne (pc' := 8) dX12_termAt_1 rfl rfl ⟨fun c => ?_, fun c => ?_⟩
  · replace k := k.1 c
    refine w_aload_n dX12_termAt_8 rfl ?_
    obtain ⟨g1, k⟩ := k
    refine w_getR dX12_termAt_9 f_12_48 t_12_14 g1 ?_
    refine w_bipush dX12_termAt_12 i2_30 ?_
    refine w_iload_n dX12_termAt_14 rfl ?_
    refine w_imul dX12_termAt_15 ?_
    refine w_iload_n dX12_termAt_16 rfl ?_
    refine w_iadd dX12_termAt_17 ?_
    refine w_iconst dX12_termAt_18 i1_1 ?_
    refine w_isub dX12_termAt_19 ?_
    obtain ⟨g2, k⟩ := k
    obtain ⟨g3, k⟩ := k
    refine w_iaload dX12_termAt_20 g2 g3 ?_
    exact w_ireturn dX12_termAt_21 rfl k
  · replace k := k.2 c
    refine w_iconst dX12_termAt_4 i1_0 ?_
    refine w_goto (pc' := 21) dX12_termAt_5 rfl rfl ?_
    exact w_ireturn dX12_termAt_21 rfl k
theorem bX12_promises_0 {d : Nat} {h : HP} {Q : Out → HP → Prop} {v0 : Nat} {v1 : Int32} (k : (hK h v0 = 12) ∧ ((hK h (hR h 1225 v0) = 20) ∧ ((inA h (hR h 1225 v0) v1 = true) ∧ ((((hAI h (hR h 1225 v0) (v1).toNatClampNeg) = (-1 : Int32)) → Q (.inl (some (.int (0 : Int32)))) h) ∧ ((¬ ((hAI h (hR h 1225 v0) (v1).toNatClampNeg) = (-1 : Int32))) → (hK h (hR h 1207 v0) = 22) ∧ ((inA h (hR h 1207 v0) v1 = true) ∧ ((hK h (hR h 1226 v0) = 22) ∧ ((inA h (hR h 1226 v0) v1 = true) ∧ (((0 ≤ (Op.cmpValue (FP.fcmp (hAF h (hR h 1207 v0) (v1).toNatClampNeg) (hAF h (hR h 1226 v0) (v1).toNatClampNeg)) .g)) → Q (.inl (some (.int (0 : Int32)))) h) ∧ ((¬ (0 ≤ (Op.cmpValue (FP.fcmp (hAF h (hR h 1207 v0) (v1).toNatClampNeg) (hAF h (hR h 1226 v0) (v1).toNatClampNeg)) .g))) → Q (.inl (some (.int (1 : Int32)))) h)))))))))) : WP d mX12_promises 0 [some (.ref v0), some (.int v1)] [] h Q := by
  refine w_aload_n dX12_promises_0 rfl ?_
  obtain ⟨g1, k⟩ := k
  refine w_getR dX12_promises_1 f_12_81 t_12_25 g1 ?_
  refine w_iload_n dX12_promises_4 rfl ?_
  obtain ⟨g2, k⟩ := k
  obtain ⟨g3, k⟩ := k
  refine w_iaload dX12_promises_5 g2 g3 ?_
  refine w_iconst dX12_promises_6 i1_m1 ?_
  refine w_ic_eq (pc' := 30) dX12_promises_7 rfl rfl ⟨fun c => ?_, fun c => ?_⟩
  · replace k := k.1 c
    refine w_iconst dX12_promises_30 i1_0 ?_
    exact w_ireturn dX12_promises_31 rfl k
  · replace k := k.2 c
    refine w_aload_n dX12_promises_10 rfl ?_
    refine w_getR dX12_promises_11 f_12_25 t_12_7 g1 ?_
    refine w_iload_n dX12_promises_14 rfl ?_
    obtain ⟨g4, k⟩ := k
    obtain ⟨g5, k⟩ := k
    refine w_faload dX12_promises_15 g4 g5 ?_
    refine w_aload_n dX12_promises_16 rfl ?_
    refine w_getR dX12_promises_17 f_12_84 t_12_26 g1 ?_
    refine w_iload_n dX12_promises_20 rfl ?_
    obtain ⟨g6, k⟩ := k
    obtain ⟨g7, k⟩ := k
    refine w_faload dX12_promises_21 g6 g7 ?_
    refine w_fcmp dX12_promises_22 ?_
    refine w_if_ge (pc' := 30) dX12_promises_23 rfl rfl ⟨fun c => ?_, fun c => ?_⟩
    · replace k := k.1 c
      refine w_iconst dX12_promises_30 i1_0 ?_
      exact w_ireturn dX12_promises_31 rfl k
    · replace k := k.2 c
      refine w_iconst dX12_promises_26 i1_1 ?_
      refine w_goto (pc' := 31) dX12_promises_27 rfl rfl ?_
      exact w_ireturn dX12_promises_31 rfl k
theorem bX12_stand_0 {d : Nat} {h : HP} {Q : Out → HP → Prop} {v0 : Nat} {v1 : Int32} {u2 : Option Value} {u3 : Option Value} {u4 : Option Value} {u5 : Option Value} (k : (1 < v0) ∧ ((hK h v0 = 12) ∧ (WP d mX12_isMachine 0 [some (.ref v0), some (.int v1)] [] h (KK d mX12_stand mX12_isMachine 2 [some (.ref v0), some (.int v1), u2, u3, u4, u5] [] Q)))) : WP (d + 1) mX12_stand 0 [some (.ref v0), some (.int v1), u2, u3, u4, u5] [] h Q := by
  refine w_aload_n dX12_stand_0 rfl ?_
  refine w_iload_n dX12_stand_1 rfl ?_
  obtain ⟨g1, k⟩ := k
  obtain ⟨g2, k⟩ := k
  exact w_virt (as1 := [.int v1, .ref v0]) (as2 := [.ref v0, .int v1]) (rest := []) (lo2 := [some (.ref v0), some (.int v1)]) dX12_stand_2 c_12_181 rfl rfl rfl (Nat.le_of_ble_eq_true rfl) (Nat.le_of_ble_eq_true rfl) rfl (Nat.le_of_ble_eq_true rfl) rfl rfl g1 g2 k
theorem bX12_stand_5 {d : Nat} {h : HP} {Q : Out → HP → Prop} {v0 : Nat} {v1 : Int32} {u2 : Option Value} {u3 : Option Value} {u4 : Option Value} {u5 : Option Value} {s0 : Int32} (k : ((s0 = 0) → (1 < v0) ∧ ((hK h v0 = 12) ∧ (WP d mX12_goes 0 [some (.ref v0), some (.int s0), some (.int (0 : Int32)), some (.int (1 : Int32))] [] h (KK d mX12_stand mX12_goes 45 [some (.ref v0), some (.int v1), some (.int s0), u3, u4, u5] [] Q)))) ∧ ((¬ (s0 = 0)) → (hK h v0 = 12) ∧ ((hK h (hR h 1205 v0) = 21) ∧ ((inA h (hR h 1205 v0) v1 = true) ∧ ((((hAI h (hR h 1205 v0) (v1).toNatClampNeg) = 0) → (1 < v0) ∧ (WP d mX12_goes 0 [some (.ref v0), some (.int s0), some (.int (0 : Int32)), some (.int (1 : Int32))] [] h (KK d mX12_stand mX12_goes 45 [some (.ref v0), some (.int v1), some (.int s0), u3, u4, u5] [] Q))) ∧ ((¬ ((hAI h (hR h 1205 v0) (v1).toNatClampNeg) = 0)) → (hK h (hR h 1211 v0) = 20) ∧ ((inA h (hR h 1211 v0) v1 = true) ∧ ((((hAI h (hR h 1211 v0) (v1).toNatClampNeg) = (2 : Int32)) → (1 < v0) ∧ (WP d mX12_goes 0 [some (.ref v0), some (.int s0), some (.int (0 : Int32)), some (.int (1 : Int32))] [] h (KK d mX12_stand mX12_goes 45 [some (.ref v0), some (.int v1), some (.int s0), u3, u4, u5] [] Q))) ∧ ((¬ ((hAI h (hR h 1211 v0) (v1).toNatClampNeg) = (2 : Int32))) → (1 < v0) ∧ (WP d mX12_promises 0 [some (.ref v0), some (.int v1)] [] h (KK d mX12_stand mX12_promises 33 [some (.ref v0), some (.int v1), some (.int s0), u3, u4, u5] [.int s0, .ref v0] Q))))))))))) : WP (d + 1) mX12_stand 5 [some (.ref v0), some (.int v1), u2, u3, u4, u5] [.int s0] h Q := by
  refine w_istore_n (lo' := [some (.ref v0), some (.int v1), some (.int s0), u3, u4, u5]) dX12_stand_5 (ltQ rfl) rfl ?_
  refine w_aload_n dX12_stand_6 rfl ?_
  refine w_iload_n dX12_stand_7 rfl ?_
  refine w_iload_n dX12_stand_8 rfl ?_
  refine w_if_eq (pc' := 43) dX12_stand_9 rfl rfl ⟨fun c => ?_, fun c => ?_⟩
  · replace k := k.1 c
    refine w_iconst dX12_stand_43 i1_0 ?_
    refine w_iconst dX12_stand_44 i1_1 ?_
    obtain ⟨g1, k⟩ := k
    obtain ⟨g2, k⟩ := k
    exact w_virt (as1 := [.int (1 : Int32), .int (0 : Int32), .int s0, .ref v0]) (as2 := [.ref v0, .int s0, .int (0 : Int32), .int (1 : Int32)]) (rest := []) (lo2 := [some (.ref v0), some (.int s0), some (.int (0 : Int32)), some (.int (1 : Int32))]) dX12_stand_45 c_12_173 rfl rfl rfl (Nat.le_of_ble_eq_true rfl) (Nat.le_of_ble_eq_true rfl) rfl (Nat.le_of_ble_eq_true rfl) rfl rfl g1 g2 k
  · replace k := k.2 c
    refine w_aload_n dX12_stand_12 rfl ?_
    obtain ⟨g3, k⟩ := k
    refine w_getR dX12_stand_13 f_12_18 t_12_5 g3 ?_
    refine w_iload_n dX12_stand_16 rfl ?_
    obtain ⟨g4, k⟩ := k
    obtain ⟨g5, k⟩ := k
    refine w_baload dX12_stand_17 g4 g5 ?_
    refine w_if_eq (pc' := 43) dX12_stand_18 rfl rfl ⟨fun c => ?_, fun c => ?_⟩
    · replace k := k.1 c
      refine w_iconst dX12_stand_43 i1_0 ?_
      refine w_iconst dX12_stand_44 i1_1 ?_
      obtain ⟨g6, k⟩ := k
      exact w_virt (as1 := [.int (1 : Int32), .int (0 : Int32), .int s0, .ref v0]) (as2 := [.ref v0, .int s0, .int (0 : Int32), .int (1 : Int32)]) (rest := []) (lo2 := [some (.ref v0), some (.int s0), some (.int (0 : Int32)), some (.int (1 : Int32))]) dX12_stand_45 c_12_173 rfl rfl rfl (Nat.le_of_ble_eq_true rfl) (Nat.le_of_ble_eq_true rfl) rfl (Nat.le_of_ble_eq_true rfl) rfl rfl g6 g3 k
    · replace k := k.2 c
      refine w_aload_n dX12_stand_21 rfl ?_
      refine w_getR dX12_stand_22 f_12_39 t_12_11 g3 ?_
      refine w_iload_n dX12_stand_25 rfl ?_
      obtain ⟨g7, k⟩ := k
      obtain ⟨g8, k⟩ := k
      refine w_iaload dX12_stand_26 g7 g8 ?_
      refine w_iconst dX12_stand_27 i1_2 ?_
      refine w_ic_eq (pc' := 43) dX12_stand_28 rfl rfl ⟨fun c => ?_, fun c => ?_⟩
      · replace k := k.1 c
        refine w_iconst dX12_stand_43 i1_0 ?_
        refine w_iconst dX12_stand_44 i1_1 ?_
        obtain ⟨g9, k⟩ := k
        exact w_virt (as1 := [.int (1 : Int32), .int (0 : Int32), .int s0, .ref v0]) (as2 := [.ref v0, .int s0, .int (0 : Int32), .int (1 : Int32)]) (rest := []) (lo2 := [some (.ref v0), some (.int s0), some (.int (0 : Int32)), some (.int (1 : Int32))]) dX12_stand_45 c_12_173 rfl rfl rfl (Nat.le_of_ble_eq_true rfl) (Nat.le_of_ble_eq_true rfl) rfl (Nat.le_of_ble_eq_true rfl) rfl rfl g9 g3 k
      · replace k := k.2 c
        refine w_aload_n dX12_stand_31 rfl ?_
        refine w_iload_n dX12_stand_32 rfl ?_
        obtain ⟨g10, k⟩ := k
        exact w_virt (as1 := [.int v1, .ref v0]) (as2 := [.ref v0, .int v1]) (rest := [.int s0, .ref v0]) (lo2 := [some (.ref v0), some (.int v1)]) dX12_stand_33 c_12_226 rfl rfl rfl (Nat.le_of_ble_eq_true rfl) (Nat.le_of_ble_eq_true rfl) rfl (Nat.le_of_ble_eq_true rfl) rfl rfl g10 g3 k
theorem bX12_stand_36 {d : Nat} {h : HP} {Q : Out → HP → Prop} {v0 : Nat} {v1 : Int32} {v2 : Int32} {u3 : Option Value} {u4 : Option Value} {u5 : Option Value} {s0 : Int32} {s1 : Int32} {s2 : Nat} (k : ((¬ s0 = 0) → (1 < s2) ∧ ((hK h s2 = 12) ∧ (WP d mX12_goes 0 [some (.ref s2), some (.int s1), some (.int (0 : Int32)), some (.int (1 : Int32))] [] h (KK d mX12_stand mX12_goes 45 [some (.ref v0), some (.int v1), some (.int v2), u3, u4, u5] [] Q)))) ∧ ((¬ (¬ s0 = 0)) → (1 < s2) ∧ ((hK h s2 = 12) ∧ (WP d mX12_goes 0 [some (.ref s2), some (.int s1), some (.int (1 : Int32)), some (.int (1 : Int32))] [] h (KK d mX12_stand mX12_goes 45 [some (.ref v0), some (.int v1), some (.int v2), u3, u4, u5] [] Q))))) : WP (d + 1) mX12_stand 36 [some (.ref v0), some (.int v1), some (.int v2), u3, u4, u5] [.int s0, .int s1, .ref s2] h Q := by
  refine w_if_ne (pc' := 43) dX12_stand_36 rfl rfl ⟨fun c => ?_, fun c => ?_⟩
  · replace k := k.1 c
    refine w_iconst dX12_stand_43 i1_0 ?_
    refine w_iconst dX12_stand_44 i1_1 ?_
    obtain ⟨g1, k⟩ := k
    obtain ⟨g2, k⟩ := k
    exact w_virt (as1 := [.int (1 : Int32), .int (0 : Int32), .int s1, .ref s2]) (as2 := [.ref s2, .int s1, .int (0 : Int32), .int (1 : Int32)]) (rest := []) (lo2 := [some (.ref s2), some (.int s1), some (.int (0 : Int32)), some (.int (1 : Int32))]) dX12_stand_45 c_12_173 rfl rfl rfl (Nat.le_of_ble_eq_true rfl) (Nat.le_of_ble_eq_true rfl) rfl (Nat.le_of_ble_eq_true rfl) rfl rfl g1 g2 k
  · replace k := k.2 c
    refine w_iconst dX12_stand_39 i1_1 ?_
    refine w_goto (pc' := 44) dX12_stand_40 rfl rfl ?_
    refine w_iconst dX12_stand_44 i1_1 ?_
    obtain ⟨g3, k⟩ := k
    obtain ⟨g4, k⟩ := k
    exact w_virt (as1 := [.int (1 : Int32), .int (1 : Int32), .int s1, .ref s2]) (as2 := [.ref s2, .int s1, .int (1 : Int32), .int (1 : Int32)]) (rest := []) (lo2 := [some (.ref s2), some (.int s1), some (.int (1 : Int32)), some (.int (1 : Int32))]) dX12_stand_45 c_12_173 rfl rfl rfl (Nat.le_of_ble_eq_true rfl) (Nat.le_of_ble_eq_true rfl) rfl (Nat.le_of_ble_eq_true rfl) rfl rfl g3 g4 k
theorem bX12_stand_48 {d : Nat} {h : HP} {Q : Out → HP → Prop} {v0 : Nat} {v1 : Int32} {v2 : Int32} {u3 : Option Value} {u4 : Option Value} {u5 : Option Value} {s0 : Int32} (k : ((¬ s0 = 0) → (hK h v0 = 12) ∧ ((hK h (hR h 1209 v0) = 20) ∧ ((inA h (hR h 1209 v0) v1 = true) ∧ ((hK h (hR h 1210 v0) = 20) ∧ ((inA h (hR h 1210 v0) v1 = true) ∧ ((hK h (hR h 1211 v0) = 20) ∧ ((inA h (hR h 1211 v0) v1 = true) ∧ ((hK h (hR h 1223 v0) = 21) ∧ ((inA h (hR h 1223 v0) v1 = true) ∧ ((hK h (hR h 1218 v0) = 20) ∧ ((inA h (hR h 1218 v0) v1 = true) ∧ (WP d mX12_stand 108 [some (.ref v0), some (.int v1), some (.int v2), some (.int v1), some (.int (0 : Int32)), u5] [] (sAI (sAI (sAI (sAI (sAI (sI h 1204 v0 ((hI h 1204 v0) + (1 : Int32))) (hR h 1209 v0) (v1).toNatClampNeg ((hAI h (hR h 1209 v0) (v1).toNatClampNeg) + (1 : Int32))) (hR h 1210 v0) (v1).toNatClampNeg v1) (hR h 1211 v0) (v1).toNatClampNeg (1 : Int32)) (hR h 1223 v0) (v1).toNatClampNeg (0 : Int32)) (hR h 1218 v0) (v1).toNatClampNeg ((1 : Int32) <<< (v1 &&& 31))) Q)))))))))))) ∧ ((¬ (¬ s0 = 0)) → Q (.inl (some (.int (0 : Int32)))) h)) : WP d mX12_stand 48 [some (.ref v0), some (.int v1), some (.int v2), u3, u4, u5] [.int s0] h Q := by
  refine w_if_ne (pc' := 53) dX12_stand_48 rfl rfl ⟨fun c => ?_, fun c => ?_⟩
  · replace k := k.1 c
    refine w_aload_n dX12_stand_53 rfl ?_
    refine w_dup dX12_stand_54 rfl ?_
    obtain ⟨g1, k⟩ := k
    refine w_getI dX12_stand_55 f_12_164 t_12_4 g1 ?_
    refine w_iconst dX12_stand_58 i1_1 ?_
    refine w_iadd dX12_stand_59 ?_
    refine w_putI dX12_stand_60 f_12_164 t_12_4 (pf_nf n_12_4) g1 ?_
    refine w_iload_n dX12_stand_63 rfl ?_
    refine w_istore_n (lo' := [some (.ref v0), some (.int v1), some (.int v2), some (.int v1), u4, u5]) dX12_stand_64 (ltQ rfl) rfl ?_
    refine w_aload_n dX12_stand_65 rfl ?_
    refine w_getR dX12_stand_66 f_12_32 t_12_9 g1 ?_
    refine w_iload_n dX12_stand_69 rfl ?_
    refine w_dup2 dX12_stand_70 rfl rfl ?_
    obtain ⟨g2, k⟩ := k
    obtain ⟨g3, k⟩ := k
    refine w_iaload dX12_stand_71 g2 g3 ?_
    refine w_iconst dX12_stand_72 i1_1 ?_
    refine w_iadd dX12_stand_73 ?_
    refine w_iastore dX12_stand_74 g2 g3 ?_
    refine w_aload_n dX12_stand_75 rfl ?_
    refine w_getR dX12_stand_76 f_12_36 t_12_10 g1 ?_
    refine w_iload_n dX12_stand_79 rfl ?_
    refine w_iload_n dX12_stand_80 rfl ?_
    obtain ⟨g4, k⟩ := k
    obtain ⟨g5, k⟩ := k
    refine w_iastore dX12_stand_81 g4 g5 ?_
    refine w_aload_n dX12_stand_82 rfl ?_
    refine w_getR dX12_stand_83 f_12_39 t_12_11 g1 ?_
    refine w_iload_n dX12_stand_86 rfl ?_
    refine w_iconst dX12_stand_87 i1_1 ?_
    obtain ⟨g6, k⟩ := k
    obtain ⟨g7, k⟩ := k
    refine w_iastore dX12_stand_88 g6 g7 ?_
    refine w_aload_n dX12_stand_89 rfl ?_
    refine w_getR dX12_stand_90 f_12_75 t_12_23 g1 ?_
    refine w_iload_n dX12_stand_93 rfl ?_
    refine w_iconst dX12_stand_94 i1_0 ?_
    obtain ⟨g8, k⟩ := k
    obtain ⟨g9, k⟩ := k
    refine w_bastore dX12_stand_95 g8 g9 rfl ?_
    refine w_aload_n dX12_stand_96 rfl ?_
    refine w_getR dX12_stand_97 f_12_60 t_12_18 g1 ?_
    refine w_iload_n dX12_stand_100 rfl ?_
    refine w_iconst dX12_stand_101 i1_1 ?_
    refine w_iload_n dX12_stand_102 rfl ?_
    refine w_ishl dX12_stand_103 ?_
    obtain ⟨g10, k⟩ := k
    obtain ⟨g11, k⟩ := k
    refine w_iastore dX12_stand_104 g10 g11 ?_
    refine w_iconst dX12_stand_105 i1_0 ?_
    refine w_istore (lo' := [some (.ref v0), some (.int v1), some (.int v2), some (.int v1), some (.int (0 : Int32)), u5]) dX12_stand_106 (ltQ rfl) rfl ?_
    exact k
  · replace k := k.2 c
    refine w_iconst dX12_stand_51 i1_0 ?_
    exact w_ireturn dX12_stand_52 rfl k
theorem bX12_stand_108 {d : Nat} {h : HP} {Q : Out → HP → Prop} {v0 : Nat} {v1 : Int32} {v2 : Int32} {v3 : Int32} {v4 : Int32} {u5 : Option Value} (k : (hK h v0 = 12) ∧ ((((hI h 1200 v0) ≤ v4) → (1 < v0) ∧ (WP d mX12_ends 0 [some (.ref v0), none] [] h (KK d mX12_stand mX12_ends 187 [some (.ref v0), some (.int v1), some (.int v2), some (.int v3), some (.int v4), u5] [] Q))) ∧ ((¬ ((hI h 1200 v0) ≤ v4)) → ((v4 = v3) → WP (d + 1) mX12_stand 108 [some (.ref v0), some (.int v1), some (.int v2), some (.int v3), some (.int (v4 + (1 : Int32))), u5] [] h Q) ∧ ((¬ (v4 = v3)) → (hK h (hR h 1209 v0) = 20) ∧ ((inA h (hR h 1209 v0) v3 = true) ∧ ((1 < v0) ∧ (WP d mX12_sends 0 [some (.ref v0), some (.int (0 : Int32)), some (.int v3), some (.int v4), some (.int (hAI h (hR h 1209 v0) (v3).toNatClampNeg)), none, none] [] h (KK d mX12_stand mX12_sends 134 [some (.ref v0), some (.int v1), some (.int v2), some (.int v3), some (.int v4), u5] [] Q)))))))) : WP (d + 1) mX12_stand 108 [some (.ref v0), some (.int v1), some (.int v2), some (.int v3), some (.int v4), u5] [] h Q := by
  refine w_iload dX12_stand_108 rfl ?_
  refine w_aload_n dX12_stand_110 rfl ?_
  obtain ⟨g1, k⟩ := k
  refine w_getI dX12_stand_111 f_12_7 t_12_0 g1 ?_
  refine w_ic_ge (pc' := 186) dX12_stand_114 rfl rfl ⟨fun c => ?_, fun c => ?_⟩
  · replace k := k.1 c
    refine w_aload_n dX12_stand_186 rfl ?_
    obtain ⟨g2, k⟩ := k
    exact w_virt (as1 := [.ref v0]) (as2 := [.ref v0]) (rest := []) (lo2 := [some (.ref v0), none]) dX12_stand_187 c_12_187 rfl rfl rfl (Nat.le_of_ble_eq_true rfl) (Nat.le_of_ble_eq_true rfl) rfl (Nat.le_of_ble_eq_true rfl) rfl rfl g2 g1 k
  · replace k := k.2 c
    refine w_iload dX12_stand_117 rfl ?_
    refine w_iload_n dX12_stand_119 rfl ?_
    refine w_ic_eq (pc' := 180) dX12_stand_120 rfl rfl ⟨fun c => ?_, fun c => ?_⟩
    · replace k := k.1 c
      refine w_iinc (lo' := [some (.ref v0), some (.int v1), some (.int v2), some (.int v3), some (.int (v4 + (1 : Int32))), u5]) dX12_stand_180 rfl i1_1 rfl ?_
      refine w_goto (pc' := 108) dX12_stand_183 rfl rfl ?_
      exact k
    · replace k := k.2 c
      refine w_aload_n dX12_stand_123 rfl ?_
      refine w_iconst dX12_stand_124 i1_0 ?_
      refine w_iload_n dX12_stand_125 rfl ?_
      refine w_iload dX12_stand_126 rfl ?_
      refine w_aload_n dX12_stand_128 rfl ?_
      refine w_getR dX12_stand_129 f_12_32 t_12_9 g1 ?_
      refine w_iload_n dX12_stand_132 rfl ?_
      obtain ⟨g3, k⟩ := k
      obtain ⟨g4, k⟩ := k
      refine w_iaload dX12_stand_133 g3 g4 ?_
      obtain ⟨g5, k⟩ := k
      exact w_virt (as1 := [.int (hAI h (hR h 1209 v0) (v3).toNatClampNeg), .int v4, .int v3, .int (0 : Int32), .ref v0]) (as2 := [.ref v0, .int (0 : Int32), .int v3, .int v4, .int (hAI h (hR h 1209 v0) (v3).toNatClampNeg)]) (rest := []) (lo2 := [some (.ref v0), some (.int (0 : Int32)), some (.int v3), some (.int v4), some (.int (hAI h (hR h 1209 v0) (v3).toNatClampNeg)), none, none]) dX12_stand_134 c_12_229 rfl rfl rfl (Nat.le_of_ble_eq_true rfl) (Nat.le_of_ble_eq_true rfl) rfl (Nat.le_of_ble_eq_true rfl) rfl rfl g5 g1 k
theorem bX12_stand_137 {d : Nat} {h : HP} {Q : Out → HP → Prop} {v0 : Nat} {v1 : Int32} {v2 : Int32} {v3 : Int32} {v4 : Int32} {u5 : Option Value} {s0 : Int32} (k : ((s0 = (-1 : Int32)) → WP (d + 1) mX12_stand 108 [some (.ref v0), some (.int v1), some (.int v2), some (.int v3), some (.int (v4 + (1 : Int32))), some (.int s0)] [] h Q) ∧ ((¬ (s0 = (-1 : Int32))) → (hK h v0 = 12) ∧ ((hK h (hR h 1212 v0) = 20) ∧ ((inA h (hR h 1212 v0) v3 = true) ∧ ((hK h (hR h 1237 v0) = 20) ∧ ((inA h (hR h 1237 v0) (s0 + (4 : Int32)) = true) ∧ ((1 < v0) ∧ (WP d mX12_termAt 0 [some (.ref v0), some (.int v3), some (.int (hAI (sAI h (hR h 1237 v0) ((s0 + (4 : Int32))).toNatClampNeg (hAI h (hR h 1212 v0) (v3).toNatClampNeg)) (hR h 1212 v0) (v3).toNatClampNeg))] [] (sAI h (hR h 1237 v0) ((s0 + (4 : Int32))).toNatClampNeg (hAI h (hR h 1212 v0) (v3).toNatClampNeg)) (KK d mX12_stand mX12_termAt 176 [some (.ref v0), some (.int v1), some (.int v2), some (.int v3), some (.int v4), some (.int s0)] [.int (s0 + (5 : Int32)), .ref (hR h 1237 v0)] Q))))))))) : WP (d + 1) mX12_stand 137 [some (.ref v0), some (.int v1), some (.int v2), some (.int v3), some (.int v4), u5] [.int s0] h Q := by
  refine w_istore (lo' := [some (.ref v0), some (.int v1), some (.int v2), some (.int v3), some (.int v4), some (.int s0)]) dX12_stand_137 (ltQ rfl) rfl ?_
  refine w_iload dX12_stand_139 rfl ?_
  refine w_iconst dX12_stand_141 i1_m1 ?_
  refine w_ic_eq (pc' := 180) dX12_stand_142 rfl rfl ⟨fun c => ?_, fun c => ?_⟩
  · replace k := k.1 c
    refine w_iinc (lo' := [some (.ref v0), some (.int v1), some (.int v2), some (.int v3), some (.int (v4 + (1 : Int32))), some (.int s0)]) dX12_stand_180 rfl i1_1 rfl ?_
    refine w_goto (pc' := 108) dX12_stand_183 rfl rfl ?_
    exact k
  · replace k := k.2 c
    refine w_aload_n dX12_stand_145 rfl ?_
    obtain ⟨g1, k⟩ := k
    refine w_getR dX12_stand_146 f_12_117 t_12_37 g1 ?_
    refine w_iload dX12_stand_149 rfl ?_
    refine w_iconst dX12_stand_151 i1_4 ?_
    refine w_iadd dX12_stand_152 ?_
    refine w_aload_n dX12_stand_153 rfl ?_
    refine w_getR dX12_stand_154 f_12_42 t_12_12 g1 ?_
    refine w_iload_n dX12_stand_157 rfl ?_
    obtain ⟨g2, k⟩ := k
    obtain ⟨g3, k⟩ := k
    refine w_iaload dX12_stand_158 g2 g3 ?_
    obtain ⟨g4, k⟩ := k
    obtain ⟨g5, k⟩ := k
    refine w_iastore dX12_stand_159 g4 g5 ?_
    refine w_aload_n dX12_stand_160 rfl ?_
    refine w_getR dX12_stand_161 f_12_117 t_12_37 g1 ?_
    refine w_iload dX12_stand_164 rfl ?_
    refine w_iconst dX12_stand_166 i1_5 ?_
    refine w_iadd dX12_stand_167 ?_
    refine w_aload_n dX12_stand_168 rfl ?_
    refine w_iload_n dX12_stand_169 rfl ?_
    refine w_aload_n dX12_stand_170 rfl ?_
    refine w_getR dX12_stand_171 f_12_42 t_12_12 g1 ?_
    refine w_iload_n dX12_stand_174 rfl ?_
    refine w_iaload dX12_stand_175 g2 g3 ?_
    obtain ⟨g6, k⟩ := k
    exact w_virt (as1 := [.int (hAI (sAI h (hR h 1237 v0) ((s0 + (4 : Int32))).toNatClampNeg (hAI h (hR h 1212 v0) (v3).toNatClampNeg)) (hR h 1212 v0) (v3).toNatClampNeg), .int v3, .ref v0]) (as2 := [.ref v0, .int v3, .int (hAI (sAI h (hR h 1237 v0) ((s0 + (4 : Int32))).toNatClampNeg (hAI h (hR h 1212 v0) (v3).toNatClampNeg)) (hR h 1212 v0) (v3).toNatClampNeg)]) (rest := [.int (s0 + (5 : Int32)), .ref (hR h 1237 v0)]) (lo2 := [some (.ref v0), some (.int v3), some (.int (hAI (sAI h (hR h 1237 v0) ((s0 + (4 : Int32))).toNatClampNeg (hAI h (hR h 1212 v0) (v3).toNatClampNeg)) (hR h 1212 v0) (v3).toNatClampNeg))]) dX12_stand_176 c_12_233 rfl rfl rfl (Nat.le_of_ble_eq_true rfl) (Nat.le_of_ble_eq_true rfl) rfl (Nat.le_of_ble_eq_true rfl) rfl rfl g6 g1 k
theorem bX12_stand_179 {d : Nat} {h : HP} {Q : Out → HP → Prop} {v0 : Nat} {v1 : Int32} {v2 : Int32} {v3 : Int32} {v4 : Int32} {v5 : Int32} {s0 : Int32} {s1 : Int32} {s2 : Nat} (k : (hK h s2 = 20) ∧ ((inA h s2 s1 = true) ∧ (WP d mX12_stand 108 [some (.ref v0), some (.int v1), some (.int v2), some (.int v3), some (.int (v4 + (1 : Int32))), some (.int v5)] [] (sAI h s2 (s1).toNatClampNeg s0) Q))) : WP d mX12_stand 179 [some (.ref v0), some (.int v1), some (.int v2), some (.int v3), some (.int v4), some (.int v5)] [.int s0, .int s1, .ref s2] h Q := by
  obtain ⟨g1, k⟩ := k
  obtain ⟨g2, k⟩ := k
  refine w_iastore dX12_stand_179 g1 g2 ?_
  refine w_iinc (lo' := [some (.ref v0), some (.int v1), some (.int v2), some (.int v3), some (.int (v4 + (1 : Int32))), some (.int v5)]) dX12_stand_180 rfl i1_1 rfl ?_
  refine w_goto (pc' := 108) dX12_stand_183 rfl rfl ?_
  exact k
theorem bX12_stand_190 {d : Nat} {h : HP} {Q : Out → HP → Prop} {v0 : Nat} {v1 : Int32} {v2 : Int32} {v3 : Int32} {v4 : Int32} {u5 : Option Value} (k : (hK h v0 = 12) ∧ ((hK h (hR h 1209 v0) = 20) ∧ ((inA h (hR h 1209 v0) v3 = true) ∧ (Q (.inl (some (.int (hAI h (hR h 1209 v0) (v3).toNatClampNeg)))) h)))) : WP d mX12_stand 190 [some (.ref v0), some (.int v1), some (.int v2), some (.int v3), some (.int v4), u5] [] h Q := by
  refine w_aload_n dX12_stand_190 rfl ?_
  obtain ⟨g1, k⟩ := k
  refine w_getR dX12_stand_191 f_12_32 t_12_9 g1 ?_
  refine w_iload_n dX12_stand_194 rfl ?_
  obtain ⟨g2, k⟩ := k
  obtain ⟨g3, k⟩ := k
  refine w_iaload dX12_stand_195 g2 g3 ?_
  exact w_ireturn dX12_stand_196 rfl k
