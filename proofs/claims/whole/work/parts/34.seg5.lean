/-! ===== segments: what the program does from a place to the next ===== -/
theorem bX12_deliver_0 {d : Nat} {h : HP} {Q : Out → HP → Prop} {v0 : Nat} {v1 : Int32} {u2 : Option Value} {u3 : Option Value} {u4 : Option Value} {u5 : Option Value} {u6 : Option Value} (k : (1 < v0) ∧ ((hK h v0 = 12) ∧ (WP d mX12_isMessage 0 [some (.ref v0), some (.int v1)] [] h (KK d mX12_deliver mX12_isMessage 2 [some (.ref v0), some (.int v1), u2, u3, u4, u5, u6] [] Q)))) : WP (d + 1) mX12_deliver 0 [some (.ref v0), some (.int v1), u2, u3, u4, u5, u6] [] h Q := by
  refine w_aload_n dX12_deliver_0 rfl ?_
  refine w_iload_n dX12_deliver_1 rfl ?_
  obtain ⟨g1, k⟩ := k
  obtain ⟨g2, k⟩ := k
  exact w_virt (as1 := [.int v1, .ref v0]) (as2 := [.ref v0, .int v1]) (rest := []) (lo2 := [some (.ref v0), some (.int v1)]) dX12_deliver_2 c_12_195 rfl rfl rfl (Nat.le_of_ble_eq_true rfl) (Nat.le_of_ble_eq_true rfl) rfl (Nat.le_of_ble_eq_true rfl) rfl rfl g1 g2 k
theorem bX12_deliver_5 {d : Nat} {h : HP} {Q : Out → HP → Prop} {v0 : Nat} {v1 : Int32} {u2 : Option Value} {u3 : Option Value} {u4 : Option Value} {u5 : Option Value} {u6 : Option Value} {s0 : Int32} (k : ((s0 = 0) → (1 < v0) ∧ ((hK h v0 = 12) ∧ (WP d mX12_goes 0 [some (.ref v0), some (.int s0), some (.int (0 : Int32)), some (.int (1 : Int32))] [] h (KK d mX12_deliver mX12_goes 72 [some (.ref v0), some (.int v1), some (.int s0), some (.int (0 : Int32)), u4, u5, u6] [] Q)))) ∧ ((¬ (s0 = 0)) → (hK h v0 = 12) ∧ ((hK h (hR h 1237 v0) = 20) ∧ ((inA h (hR h 1237 v0) (((24 : Int32) * v1) + (2 : Int32)) = true) ∧ ((hK h (hR h 1205 v0) = 21) ∧ ((inA h (hR h 1205 v0) (hAI h (hR h 1237 v0) ((((24 : Int32) * v1) + (2 : Int32))).toNatClampNeg) = true) ∧ ((((hAI h (hR h 1205 v0) ((hAI h (hR h 1237 v0) ((((24 : Int32) * v1) + (2 : Int32))).toNatClampNeg)).toNatClampNeg) = 0) → (1 < v0) ∧ (WP d mX12_goes 0 [some (.ref v0), some (.int s0), some (.int (0 : Int32)), some (.int (1 : Int32))] [] h (KK d mX12_deliver mX12_goes 72 [some (.ref v0), some (.int v1), some (.int s0), some (.int (0 : Int32)), u4, u5, u6] [] Q))) ∧ ((¬ ((hAI h (hR h 1205 v0) ((hAI h (hR h 1237 v0) ((((24 : Int32) * v1) + (2 : Int32))).toNatClampNeg)).toNatClampNeg) = 0)) → (inA h (hR h 1237 v0) (((24 : Int32) * v1) + (1 : Int32)) = true) ∧ ((hK h (hR h 1206 v0) = 21) ∧ ((inA h (hR h 1206 v0) (((5 : Int32) * (hAI h (hR h 1237 v0) ((((24 : Int32) * v1) + (1 : Int32))).toNatClampNeg)) + (hAI h (hR h 1237 v0) ((((24 : Int32) * v1) + (2 : Int32))).toNatClampNeg)) = true) ∧ (((¬ (hAI h (hR h 1206 v0) ((((5 : Int32) * (hAI h (hR h 1237 v0) ((((24 : Int32) * v1) + (1 : Int32))).toNatClampNeg)) + (hAI h (hR h 1237 v0) ((((24 : Int32) * v1) + (2 : Int32))).toNatClampNeg))).toNatClampNeg) = 0) → (1 < v0) ∧ (WP d mX12_goes 0 [some (.ref v0), some (.int s0), some (.int (0 : Int32)), some (.int (1 : Int32))] [] h (KK d mX12_deliver mX12_goes 72 [some (.ref v0), some (.int v1), some (.int s0), some (.int (0 : Int32)), u4, u5, u6] [] Q))) ∧ ((¬ (¬ (hAI h (hR h 1206 v0) ((((5 : Int32) * (hAI h (hR h 1237 v0) ((((24 : Int32) * v1) + (1 : Int32))).toNatClampNeg)) + (hAI h (hR h 1237 v0) ((((24 : Int32) * v1) + (2 : Int32))).toNatClampNeg))).toNatClampNeg) = 0)) → (1 < v0) ∧ (WP d mX12_goes 0 [some (.ref v0), some (.int s0), some (.int (1 : Int32)), some (.int (1 : Int32))] [] h (KK d mX12_deliver mX12_goes 72 [some (.ref v0), some (.int v1), some (.int s0), some (.int (1 : Int32)), u4, u5, u6] [] Q)))))))))))))) : WP (d + 1) mX12_deliver 5 [some (.ref v0), some (.int v1), u2, u3, u4, u5, u6] [.int s0] h Q := by
  refine w_istore_n (lo' := [some (.ref v0), some (.int v1), some (.int s0), u3, u4, u5, u6]) dX12_deliver_5 (ltQ rfl) rfl ?_
  refine w_iload_n dX12_deliver_6 rfl ?_
  refine w_if_eq (pc' := 66) dX12_deliver_7 rfl rfl ⟨fun c => ?_, fun c => ?_⟩
  · replace k := k.1 c
    refine w_iconst dX12_deliver_66 i1_0 ?_
    refine w_istore_n (lo' := [some (.ref v0), some (.int v1), some (.int s0), some (.int (0 : Int32)), u4, u5, u6]) dX12_deliver_67 (ltQ rfl) rfl ?_
    refine w_aload_n dX12_deliver_68 rfl ?_
    refine w_iload_n dX12_deliver_69 rfl ?_
    refine w_iload_n dX12_deliver_70 rfl ?_
    refine w_iconst dX12_deliver_71 i1_1 ?_
    obtain ⟨g1, k⟩ := k
    obtain ⟨g2, k⟩ := k
    exact w_virt (as1 := [.int (1 : Int32), .int (0 : Int32), .int s0, .ref v0]) (as2 := [.ref v0, .int s0, .int (0 : Int32), .int (1 : Int32)]) (rest := []) (lo2 := [some (.ref v0), some (.int s0), some (.int (0 : Int32)), some (.int (1 : Int32))]) dX12_deliver_72 c_12_173 rfl rfl rfl (Nat.le_of_ble_eq_true rfl) (Nat.le_of_ble_eq_true rfl) rfl (Nat.le_of_ble_eq_true rfl) rfl rfl g1 g2 k
  · replace k := k.2 c
    refine w_aload_n dX12_deliver_10 rfl ?_
    obtain ⟨g3, k⟩ := k
    refine w_getR dX12_deliver_11 f_12_18 t_12_5 g3 ?_
    refine w_aload_n dX12_deliver_14 rfl ?_
    refine w_getR dX12_deliver_15 f_12_117 t_12_37 g3 ?_
    refine w_bipush dX12_deliver_18 i2_24 ?_
    refine w_iload_n dX12_deliver_20 rfl ?_
    refine w_imul dX12_deliver_21 ?_
    refine w_iconst dX12_deliver_22 i1_2 ?_
    refine w_iadd dX12_deliver_23 ?_
    obtain ⟨g4, k⟩ := k
    obtain ⟨g5, k⟩ := k
    refine w_iaload dX12_deliver_24 g4 g5 ?_
    obtain ⟨g6, k⟩ := k
    obtain ⟨g7, k⟩ := k
    refine w_baload dX12_deliver_25 g6 g7 ?_
    refine w_if_eq (pc' := 66) dX12_deliver_26 rfl rfl ⟨fun c => ?_, fun c => ?_⟩
    · replace k := k.1 c
      refine w_iconst dX12_deliver_66 i1_0 ?_
      refine w_istore_n (lo' := [some (.ref v0), some (.int v1), some (.int s0), some (.int (0 : Int32)), u4, u5, u6]) dX12_deliver_67 (ltQ rfl) rfl ?_
      refine w_aload_n dX12_deliver_68 rfl ?_
      refine w_iload_n dX12_deliver_69 rfl ?_
      refine w_iload_n dX12_deliver_70 rfl ?_
      refine w_iconst dX12_deliver_71 i1_1 ?_
      obtain ⟨g8, k⟩ := k
      exact w_virt (as1 := [.int (1 : Int32), .int (0 : Int32), .int s0, .ref v0]) (as2 := [.ref v0, .int s0, .int (0 : Int32), .int (1 : Int32)]) (rest := []) (lo2 := [some (.ref v0), some (.int s0), some (.int (0 : Int32)), some (.int (1 : Int32))]) dX12_deliver_72 c_12_173 rfl rfl rfl (Nat.le_of_ble_eq_true rfl) (Nat.le_of_ble_eq_true rfl) rfl (Nat.le_of_ble_eq_true rfl) rfl rfl g8 g3 k
    · replace k := k.2 c
      refine w_aload_n dX12_deliver_29 rfl ?_
      refine w_getR dX12_deliver_30 f_12_22 t_12_6 g3 ?_
      refine w_iconst dX12_deliver_33 i1_5 ?_
      refine w_aload_n dX12_deliver_34 rfl ?_
      refine w_getR dX12_deliver_35 f_12_117 t_12_37 g3 ?_
      refine w_bipush dX12_deliver_38 i2_24 ?_
      refine w_iload_n dX12_deliver_40 rfl ?_
      refine w_imul dX12_deliver_41 ?_
      refine w_iconst dX12_deliver_42 i1_1 ?_
      refine w_iadd dX12_deliver_43 ?_
      obtain ⟨g9, k⟩ := k
      refine w_iaload dX12_deliver_44 g4 g9 ?_
      refine w_imul dX12_deliver_45 ?_
      refine w_aload_n dX12_deliver_46 rfl ?_
      refine w_getR dX12_deliver_47 f_12_117 t_12_37 g3 ?_
      refine w_bipush dX12_deliver_50 i2_24 ?_
      refine w_iload_n dX12_deliver_52 rfl ?_
      refine w_imul dX12_deliver_53 ?_
      refine w_iconst dX12_deliver_54 i1_2 ?_
      refine w_iadd dX12_deliver_55 ?_
      refine w_iaload dX12_deliver_56 g4 g5 ?_
      refine w_iadd dX12_deliver_57 ?_
      obtain ⟨g10, k⟩ := k
      obtain ⟨g11, k⟩ := k
      refine w_baload dX12_deliver_58 g10 g11 ?_
      refine w_if_ne (pc' := 66) dX12_deliver_59 rfl rfl ⟨fun c => ?_, fun c => ?_⟩
      · replace k := k.1 c
        refine w_iconst dX12_deliver_66 i1_0 ?_
        refine w_istore_n (lo' := [some (.ref v0), some (.int v1), some (.int s0), some (.int (0 : Int32)), u4, u5, u6]) dX12_deliver_67 (ltQ rfl) rfl ?_
        refine w_aload_n dX12_deliver_68 rfl ?_
        refine w_iload_n dX12_deliver_69 rfl ?_
        refine w_iload_n dX12_deliver_70 rfl ?_
        refine w_iconst dX12_deliver_71 i1_1 ?_
        obtain ⟨g12, k⟩ := k
        exact w_virt (as1 := [.int (1 : Int32), .int (0 : Int32), .int s0, .ref v0]) (as2 := [.ref v0, .int s0, .int (0 : Int32), .int (1 : Int32)]) (rest := []) (lo2 := [some (.ref v0), some (.int s0), some (.int (0 : Int32)), some (.int (1 : Int32))]) dX12_deliver_72 c_12_173 rfl rfl rfl (Nat.le_of_ble_eq_true rfl) (Nat.le_of_ble_eq_true rfl) rfl (Nat.le_of_ble_eq_true rfl) rfl rfl g12 g3 k
      · replace k := k.2 c
        refine w_iconst dX12_deliver_62 i1_1 ?_
        refine w_goto (pc' := 67) dX12_deliver_63 rfl rfl ?_
        refine w_istore_n (lo' := [some (.ref v0), some (.int v1), some (.int s0), some (.int (1 : Int32)), u4, u5, u6]) dX12_deliver_67 (ltQ rfl) rfl ?_
        refine w_aload_n dX12_deliver_68 rfl ?_
        refine w_iload_n dX12_deliver_69 rfl ?_
        refine w_iload_n dX12_deliver_70 rfl ?_
        refine w_iconst dX12_deliver_71 i1_1 ?_
        obtain ⟨g13, k⟩ := k
        exact w_virt (as1 := [.int (1 : Int32), .int (1 : Int32), .int s0, .ref v0]) (as2 := [.ref v0, .int s0, .int (1 : Int32), .int (1 : Int32)]) (rest := []) (lo2 := [some (.ref v0), some (.int s0), some (.int (1 : Int32)), some (.int (1 : Int32))]) dX12_deliver_72 c_12_173 rfl rfl rfl (Nat.le_of_ble_eq_true rfl) (Nat.le_of_ble_eq_true rfl) rfl (Nat.le_of_ble_eq_true rfl) rfl rfl g13 g3 k
theorem bX12_deliver_75 {d : Nat} {h : HP} {Q : Out → HP → Prop} {v0 : Nat} {v1 : Int32} {v2 : Int32} {v3 : Int32} {u4 : Option Value} {u5 : Option Value} {u6 : Option Value} {s0 : Int32} (k : ((¬ s0 = 0) → (hK h v0 = 12) ∧ ((hK (sI h 1204 v0 ((hI h 1204 v0) + (1 : Int32))) v0 = 12) ∧ (WP d mX12_deliver 98 [some (.ref v0), some (.int v1), some (.int v2), some (.int v3), some (.int (0 : Int32)), u5, u6] [] (sI (sI h 1204 v0 ((hI h 1204 v0) + (1 : Int32))) 1240 v0 (0 : Int32)) Q))) ∧ ((¬ (¬ s0 = 0)) → Q (.inl (some (.int (0 : Int32)))) h)) : WP d mX12_deliver 75 [some (.ref v0), some (.int v1), some (.int v2), some (.int v3), u4, u5, u6] [.int s0] h Q := by
  refine w_if_ne (pc' := 80) dX12_deliver_75 rfl rfl ⟨fun c => ?_, fun c => ?_⟩
  · replace k := k.1 c
    refine w_aload_n dX12_deliver_80 rfl ?_
    refine w_dup dX12_deliver_81 rfl ?_
    obtain ⟨g1, k⟩ := k
    refine w_getI dX12_deliver_82 f_12_164 t_12_4 g1 ?_
    refine w_iconst dX12_deliver_85 i1_1 ?_
    refine w_iadd dX12_deliver_86 ?_
    refine w_putI dX12_deliver_87 f_12_164 t_12_4 (pf_nf n_12_4) g1 ?_
    refine w_aload_n dX12_deliver_90 rfl ?_
    refine w_iconst dX12_deliver_91 i1_0 ?_
    obtain ⟨g2, k⟩ := k
    refine w_putI dX12_deliver_92 f_12_192 t_12_40 (pf_nf n_12_40) g2 ?_
    refine w_iconst dX12_deliver_95 i1_0 ?_
    refine w_istore (lo' := [some (.ref v0), some (.int v1), some (.int v2), some (.int v3), some (.int (0 : Int32)), u5, u6]) dX12_deliver_96 (ltQ rfl) rfl ?_
    exact k
  · replace k := k.2 c
    refine w_iconst dX12_deliver_78 i1_0 ?_
    exact w_ireturn dX12_deliver_79 rfl k
theorem bX12_deliver_98 {d : Nat} {h : HP} {Q : Out → HP → Prop} {v0 : Nat} {v1 : Int32} {v2 : Int32} {v3 : Int32} {v4 : Int32} {u5 : Option Value} {u6 : Option Value} (k : (((24 : Int32) ≤ v4) → (hK h v0 = 12) ∧ ((hK h (hR h 1238 v0) = 22) ∧ ((inA h (hR h 1238 v0) v1 = true) ∧ ((1 < v0) ∧ (WP d mX12_leaves 0 [some (.ref v0), some (.int v1), none] [] h (KK d mX12_deliver mX12_leaves 140 [some (.ref v0), some (.int v1), some (.int v2), some (.int v3), some (.float (hAF h (hR h 1238 v0) (v1).toNatClampNeg)), u5, u6] [] Q)))))) ∧ ((¬ ((24 : Int32) ≤ v4)) → (hK h v0 = 12) ∧ ((hK h (hR h 1237 v0) = 20) ∧ ((inA h (hR h 1237 v0) (((24 : Int32) * v1) + v4) = true) ∧ ((hK h (hR h 1249 v0) = 20) ∧ ((inA h (hR h 1249 v0) v4 = true) ∧ (WP (d + 1) mX12_deliver 98 [some (.ref v0), some (.int v1), some (.int v2), some (.int v3), some (.int (v4 + (1 : Int32))), u5, u6] [] (sAI h (hR h 1249 v0) (v4).toNatClampNeg (hAI h (hR h 1237 v0) ((((24 : Int32) * v1) + v4)).toNatClampNeg)) Q))))))) : WP (d + 1) mX12_deliver 98 [some (.ref v0), some (.int v1), some (.int v2), some (.int v3), some (.int v4), u5, u6] [] h Q := by
  refine w_iload dX12_deliver_98 rfl ?_
  refine w_bipush dX12_deliver_100 i2_24 ?_
  refine w_ic_ge (pc' := 130) dX12_deliver_102 rfl rfl ⟨fun c => ?_, fun c => ?_⟩
  · replace k := k.1 c
    refine w_aload_n dX12_deliver_130 rfl ?_
    obtain ⟨g1, k⟩ := k
    refine w_getR dX12_deliver_131 f_12_120 t_12_38 g1 ?_
    refine w_iload_n dX12_deliver_134 rfl ?_
    obtain ⟨g2, k⟩ := k
    obtain ⟨g3, k⟩ := k
    refine w_faload dX12_deliver_135 g2 g3 ?_
    refine w_fstore (lo' := [some (.ref v0), some (.int v1), some (.int v2), some (.int v3), some (.float (hAF h (hR h 1238 v0) (v1).toNatClampNeg)), u5, u6]) dX12_deliver_136 (ltQ rfl) rfl ?_
    refine w_aload_n dX12_deliver_138 rfl ?_
    refine w_iload_n dX12_deliver_139 rfl ?_
    obtain ⟨g4, k⟩ := k
    exact w_virt (as1 := [.int v1, .ref v0]) (as2 := [.ref v0, .int v1]) (rest := []) (lo2 := [some (.ref v0), some (.int v1), none]) dX12_deliver_140 c_12_198 rfl rfl rfl (Nat.le_of_ble_eq_true rfl) (Nat.le_of_ble_eq_true rfl) rfl (Nat.le_of_ble_eq_true rfl) rfl rfl g4 g1 k
  · replace k := k.2 c
    refine w_aload_n dX12_deliver_105 rfl ?_
    obtain ⟨g5, k⟩ := k
    refine w_getR dX12_deliver_106 f_12_144 t_12_49 g5 ?_
    refine w_iload dX12_deliver_109 rfl ?_
    refine w_aload_n dX12_deliver_111 rfl ?_
    refine w_getR dX12_deliver_112 f_12_117 t_12_37 g5 ?_
    refine w_bipush dX12_deliver_115 i2_24 ?_
    refine w_iload_n dX12_deliver_117 rfl ?_
    refine w_imul dX12_deliver_118 ?_
    refine w_iload dX12_deliver_119 rfl ?_
    refine w_iadd dX12_deliver_121 ?_
    obtain ⟨g6, k⟩ := k
    obtain ⟨g7, k⟩ := k
    refine w_iaload dX12_deliver_122 g6 g7 ?_
    obtain ⟨g8, k⟩ := k
    obtain ⟨g9, k⟩ := k
    refine w_iastore dX12_deliver_123 g8 g9 ?_
    refine w_iinc (lo' := [some (.ref v0), some (.int v1), some (.int v2), some (.int v3), some (.int (v4 + (1 : Int32))), u5, u6]) dX12_deliver_124 rfl i1_1 rfl ?_
    refine w_goto (pc' := 98) dX12_deliver_127 rfl rfl ?_
    exact k
theorem bX12_deliver_143 {d : Nat} {h : HP} {Q : Out → HP → Prop} {v0 : Nat} {v1 : Int32} {v2 : Int32} {v3 : Int32} {v4 : UInt32} {u5 : Option Value} {u6 : Option Value} (k : (hK h v0 = 12) ∧ ((hK h (hR h 1249 v0) = 20) ∧ ((inA h (hR h 1249 v0) (0 : Int32) = true) ∧ ((inA h (hR h 1249 v0) (2 : Int32) = true) ∧ ((((3 : Int32) < (hAI h (hR h 1249 v0) ((0 : Int32)).toNatClampNeg)) → WP d mX12_deliver 208 [some (.ref v0), some (.int v1), some (.int v2), some (.int v3), some (.float v4), some (.int (hAI h (hR h 1249 v0) ((0 : Int32)).toNatClampNeg)), some (.int (hAI h (hR h 1249 v0) ((2 : Int32)).toNatClampNeg))] [] h Q) ∧ ((¬ ((3 : Int32) < (hAI h (hR h 1249 v0) ((0 : Int32)).toNatClampNeg))) → (inA h (hR h 1249 v0) (3 : Int32) = true) ∧ ((hK h (hR h 1209 v0) = 20) ∧ ((inA h (hR h 1209 v0) (hAI h (hR h 1249 v0) ((2 : Int32)).toNatClampNeg) = true) ∧ ((((hAI h (hR h 1249 v0) ((3 : Int32)).toNatClampNeg) ≤ (hAI h (hR h 1209 v0) ((hAI h (hR h 1249 v0) ((2 : Int32)).toNatClampNeg)).toNatClampNeg)) → WP d mX12_deliver 208 [some (.ref v0), some (.int v1), some (.int v2), some (.int v3), some (.float v4), some (.int (hAI h (hR h 1249 v0) ((0 : Int32)).toNatClampNeg)), some (.int (hAI h (hR h 1249 v0) ((2 : Int32)).toNatClampNeg))] [] h Q) ∧ ((¬ ((hAI h (hR h 1249 v0) ((3 : Int32)).toNatClampNeg) ≤ (hAI h (hR h 1209 v0) ((hAI h (hR h 1249 v0) ((2 : Int32)).toNatClampNeg)).toNatClampNeg))) → (hK (sAI h (hR h 1209 v0) ((hAI h (hR h 1249 v0) ((2 : Int32)).toNatClampNeg)).toNatClampNeg (hAI h (hR h 1249 v0) ((3 : Int32)).toNatClampNeg)) v0 = 12) ∧ ((hK (sAI h (hR h 1209 v0) ((hAI h (hR h 1249 v0) ((2 : Int32)).toNatClampNeg)).toNatClampNeg (hAI h (hR h 1249 v0) ((3 : Int32)).toNatClampNeg)) (hR (sAI h (hR h 1209 v0) ((hAI h (hR h 1249 v0) ((2 : Int32)).toNatClampNeg)).toNatClampNeg (hAI h (hR h 1249 v0) ((3 : Int32)).toNatClampNeg)) 1210 v0) = 20) ∧ ((inA (sAI h (hR h 1209 v0) ((hAI h (hR h 1249 v0) ((2 : Int32)).toNatClampNeg)).toNatClampNeg (hAI h (hR h 1249 v0) ((3 : Int32)).toNatClampNeg)) (hR (sAI h (hR h 1209 v0) ((hAI h (hR h 1249 v0) ((2 : Int32)).toNatClampNeg)).toNatClampNeg (hAI h (hR h 1249 v0) ((3 : Int32)).toNatClampNeg)) 1210 v0) (hAI h (hR h 1249 v0) ((2 : Int32)).toNatClampNeg) = true) ∧ (WP d mX12_deliver 205 [some (.ref v0), some (.int v1), some (.int v2), some (.int v3), some (.float v4), some (.int (hAI h (hR h 1249 v0) ((0 : Int32)).toNatClampNeg)), some (.int (hAI h (hR h 1249 v0) ((2 : Int32)).toNatClampNeg))] [.int (hAI h (hR h 1249 v0) ((2 : Int32)).toNatClampNeg), .ref v0] (sAI (sAI h (hR h 1209 v0) ((hAI h (hR h 1249 v0) ((2 : Int32)).toNatClampNeg)).toNatClampNeg (hAI h (hR h 1249 v0) ((3 : Int32)).toNatClampNeg)) (hR (sAI h (hR h 1209 v0) ((hAI h (hR h 1249 v0) ((2 : Int32)).toNatClampNeg)).toNatClampNeg (hAI h (hR h 1249 v0) ((3 : Int32)).toNatClampNeg)) 1210 v0) ((hAI h (hR h 1249 v0) ((2 : Int32)).toNatClampNeg)).toNatClampNeg (-1 : Int32)) Q))))))))))))) : WP d mX12_deliver 143 [some (.ref v0), some (.int v1), some (.int v2), some (.int v3), some (.float v4), u5, u6] [] h Q := by
  refine w_aload_n dX12_deliver_143 rfl ?_
  obtain ⟨g1, k⟩ := k
  refine w_getR dX12_deliver_144 f_12_144 t_12_49 g1 ?_
  refine w_iconst dX12_deliver_147 i1_0 ?_
  obtain ⟨g2, k⟩ := k
  obtain ⟨g3, k⟩ := k
  refine w_iaload dX12_deliver_148 g2 g3 ?_
  refine w_istore (lo' := [some (.ref v0), some (.int v1), some (.int v2), some (.int v3), some (.float v4), some (.int (hAI h (hR h 1249 v0) ((0 : Int32)).toNatClampNeg)), u6]) dX12_deliver_149 (ltQ rfl) rfl ?_
  refine w_aload_n dX12_deliver_151 rfl ?_
  refine w_getR dX12_deliver_152 f_12_144 t_12_49 g1 ?_
  refine w_iconst dX12_deliver_155 i1_2 ?_
  obtain ⟨g4, k⟩ := k
  refine w_iaload dX12_deliver_156 g2 g4 ?_
  refine w_istore (lo' := [some (.ref v0), some (.int v1), some (.int v2), some (.int v3), some (.float v4), some (.int (hAI h (hR h 1249 v0) ((0 : Int32)).toNatClampNeg)), some (.int (hAI h (hR h 1249 v0) ((2 : Int32)).toNatClampNeg))]) dX12_deliver_157 (ltQ rfl) rfl ?_
  refine w_iload dX12_deliver_159 rfl ?_
  refine w_iconst dX12_deliver_161 i1_3 ?_
  refine w_ic_gt (pc' := 208) dX12_deliver_162 rfl rfl ⟨fun c => ?_, fun c => ?_⟩
  · replace k := k.1 c
    exact k
  · replace k := k.2 c
    refine w_aload_n dX12_deliver_165 rfl ?_
    refine w_getR dX12_deliver_166 f_12_144 t_12_49 g1 ?_
    refine w_iconst dX12_deliver_169 i1_3 ?_
    obtain ⟨g5, k⟩ := k
    refine w_iaload dX12_deliver_170 g2 g5 ?_
    refine w_aload_n dX12_deliver_171 rfl ?_
    refine w_getR dX12_deliver_172 f_12_32 t_12_9 g1 ?_
    refine w_iload dX12_deliver_175 rfl ?_
    obtain ⟨g6, k⟩ := k
    obtain ⟨g7, k⟩ := k
    refine w_iaload dX12_deliver_177 g6 g7 ?_
    refine w_ic_le (pc' := 208) dX12_deliver_178 rfl rfl ⟨fun c => ?_, fun c => ?_⟩
    · replace k := k.1 c
      exact k
    · replace k := k.2 c
      refine w_aload_n dX12_deliver_181 rfl ?_
      refine w_getR dX12_deliver_182 f_12_32 t_12_9 g1 ?_
      refine w_iload dX12_deliver_185 rfl ?_
      refine w_aload_n dX12_deliver_187 rfl ?_
      refine w_getR dX12_deliver_188 f_12_144 t_12_49 g1 ?_
      refine w_iconst dX12_deliver_191 i1_3 ?_
      refine w_iaload dX12_deliver_192 g2 g5 ?_
      refine w_iastore dX12_deliver_193 g6 g7 ?_
      refine w_aload_n dX12_deliver_194 rfl ?_
      obtain ⟨g8, k⟩ := k
      refine w_getR dX12_deliver_195 f_12_36 t_12_10 g8 ?_
      refine w_iload dX12_deliver_198 rfl ?_
      refine w_iconst dX12_deliver_200 i1_m1 ?_
      obtain ⟨g9, k⟩ := k
      obtain ⟨g10, k⟩ := k
      refine w_iastore dX12_deliver_201 g9 g10 ?_
      refine w_aload_n dX12_deliver_202 rfl ?_
      refine w_iload dX12_deliver_203 rfl ?_
      exact k
theorem bX12_deliver_205 {d : Nat} {h : HP} {Q : Out → HP → Prop} {v0 : Nat} {v1 : Int32} {v2 : Int32} {v3 : Int32} {v4 : UInt32} {v5 : Int32} {v6 : Int32} {s0 : Int32} {s1 : Nat} (k : (1 < s1) ∧ ((hK h s1 = 12) ∧ (WP d mX12_follows 0 [some (.ref s1), some (.int s0)] [] h (KK d mX12_deliver mX12_follows 205 [some (.ref v0), some (.int v1), some (.int v2), some (.int v3), some (.float v4), some (.int v5), some (.int v6)] [] Q)))) : WP (d + 1) mX12_deliver 205 [some (.ref v0), some (.int v1), some (.int v2), some (.int v3), some (.float v4), some (.int v5), some (.int v6)] [.int s0, .ref s1] h Q := by
  obtain ⟨g1, k⟩ := k
  obtain ⟨g2, k⟩ := k
  exact w_virt (as1 := [.int s0, .ref s1]) (as2 := [.ref s1, .int s0]) (rest := []) (lo2 := [some (.ref s1), some (.int s0)]) dX12_deliver_205 c_12_184 rfl rfl rfl (Nat.le_of_ble_eq_true rfl) (Nat.le_of_ble_eq_true rfl) rfl (Nat.le_of_ble_eq_true rfl) rfl rfl g1 g2 k
theorem bX12_deliver_208 {d : Nat} {h : HP} {Q : Out → HP → Prop} {v0 : Nat} {v1 : Int32} {v2 : Int32} {v3 : Int32} {v4 : UInt32} {v5 : Int32} {v6 : Int32} (k : ((v5 = (0 : Int32)) → (1 < v0) ∧ ((hK h v0 = 12) ∧ (WP d mX12_asked 0 [some (.ref v0), some (.int v6), none, none, none, none, none, none] [] h (KK d mX12_deliver mX12_asked 255 [some (.ref v0), some (.int v1), some (.int v2), some (.int v3), some (.float v4), some (.int v5), some (.int v6)] [] Q)))) ∧ ((v5 = (1 : Int32)) → (1 < v0) ∧ ((hK h v0 = 12) ∧ (WP d mX12_voted 0 [some (.ref v0), some (.int v6), none] [] h (KK d mX12_deliver mX12_voted 264 [some (.ref v0), some (.int v1), some (.int v2), some (.int v3), some (.float v4), some (.int v5), some (.int v6)] [] Q)))) ∧ ((v5 = (2 : Int32)) → (1 < v0) ∧ ((hK h v0 = 12) ∧ (WP d mX12_appended 0 [some (.ref v0), some (.int v6), some (.float v4), none, none, none, none, none, none, none] [] h (KK d mX12_deliver mX12_appended 275 [some (.ref v0), some (.int v1), some (.int v2), some (.int v3), some (.float v4), some (.int v5), some (.int v6)] [] Q)))) ∧ ((v5 = (3 : Int32)) → (1 < v0) ∧ ((hK h v0 = 12) ∧ (WP d mX12_acknowledged 0 [some (.ref v0), some (.int v6), some (.float v4), none, none] [] h (KK d mX12_deliver mX12_acknowledged 286 [some (.ref v0), some (.int v1), some (.int v2), some (.int v3), some (.float v4), some (.int v5), some (.int v6)] [] Q)))) ∧ ((v5 = (4 : Int32)) → (1 < v0) ∧ ((hK h v0 = 12) ∧ (WP d mX12_prepared 0 [some (.ref v0), some (.int v6), none, none] [] h (KK d mX12_deliver mX12_prepared 295 [some (.ref v0), some (.int v1), some (.int v2), some (.int v3), some (.float v4), some (.int v5), some (.int v6)] [] Q)))) ∧ ((v5 = (5 : Int32)) → (1 < v0) ∧ ((hK h v0 = 12) ∧ (WP d mX12_promised 0 [some (.ref v0), some (.int v6), none, none, none] [] h (KK d mX12_deliver mX12_promised 304 [some (.ref v0), some (.int v1), some (.int v2), some (.int v3), some (.float v4), some (.int v5), some (.int v6)] [] Q)))) ∧ ((v5 = (6 : Int32)) → (1 < v0) ∧ ((hK h v0 = 12) ∧ (WP d mX12_accepted 0 [some (.ref v0), some (.int v6), none, none] [] h (KK d mX12_deliver mX12_accepted 313 [some (.ref v0), some (.int v1), some (.int v2), some (.int v3), some (.float v4), some (.int v5), some (.int v6)] [] Q)))) ∧ ((¬ v5 = (0 : Int32) ∧ ¬ v5 = (1 : Int32) ∧ ¬ v5 = (2 : Int32) ∧ ¬ v5 = (3 : Int32) ∧ ¬ v5 = (4 : Int32) ∧ ¬ v5 = (5 : Int32) ∧ ¬ v5 = (6 : Int32)) → (1 < v0) ∧ ((hK h v0 = 12) ∧ (WP d mX12_counts 0 [some (.ref v0), some (.int v6), none] [] h (KK d mX12_deliver mX12_counts 322 [some (.ref v0), some (.int v1), some (.int v2), some (.int v3), some (.float v4), some (.int v5), some (.int v6)] [] Q))))) : WP (d + 1) mX12_deliver 208 [some (.ref v0), some (.int v1), some (.int v2), some (.int v3), some (.float v4), some (.int v5), some (.int v6)] [] h Q := by
  refine w_iload dX12_deliver_208 rfl ?_
  by_cases c0 : v5 = (0 : Int32)
  · replace k := k.1 c0
    refine w_tsw (pc' := 252) dX12_deliver_210 (by rw [c0]; rfl) ?_
    refine w_aload_n dX12_deliver_252 rfl ?_
    refine w_iload dX12_deliver_253 rfl ?_
    obtain ⟨g1, k⟩ := k
    obtain ⟨g2, k⟩ := k
    exact w_virt (as1 := [.int v6, .ref v0]) (as2 := [.ref v0, .int v6]) (rest := []) (lo2 := [some (.ref v0), some (.int v6), none, none, none, none, none, none]) dX12_deliver_255 c_12_201 rfl rfl rfl (Nat.le_of_ble_eq_true rfl) (Nat.le_of_ble_eq_true rfl) rfl (Nat.le_of_ble_eq_true rfl) rfl rfl g1 g2 k
  replace k := k.2
  by_cases c1 : v5 = (1 : Int32)
  · replace k := k.1 c1
    refine w_tsw (pc' := 261) dX12_deliver_210 (by rw [c1]; rfl) ?_
    refine w_aload_n dX12_deliver_261 rfl ?_
    refine w_iload dX12_deliver_262 rfl ?_
    obtain ⟨g3, k⟩ := k
    obtain ⟨g4, k⟩ := k
    exact w_virt (as1 := [.int v6, .ref v0]) (as2 := [.ref v0, .int v6]) (rest := []) (lo2 := [some (.ref v0), some (.int v6), none]) dX12_deliver_264 c_12_204 rfl rfl rfl (Nat.le_of_ble_eq_true rfl) (Nat.le_of_ble_eq_true rfl) rfl (Nat.le_of_ble_eq_true rfl) rfl rfl g3 g4 k
  replace k := k.2
  by_cases c2 : v5 = (2 : Int32)
  · replace k := k.1 c2
    refine w_tsw (pc' := 270) dX12_deliver_210 (by rw [c2]; rfl) ?_
    refine w_aload_n dX12_deliver_270 rfl ?_
    refine w_iload dX12_deliver_271 rfl ?_
    refine w_fload dX12_deliver_273 rfl ?_
    obtain ⟨g5, k⟩ := k
    obtain ⟨g6, k⟩ := k
    exact w_virt (as1 := [.float v4, .int v6, .ref v0]) (as2 := [.ref v0, .int v6, .float v4]) (rest := []) (lo2 := [some (.ref v0), some (.int v6), some (.float v4), none, none, none, none, none, none, none]) dX12_deliver_275 c_12_207 rfl rfl rfl (Nat.le_of_ble_eq_true rfl) (Nat.le_of_ble_eq_true rfl) rfl (Nat.le_of_ble_eq_true rfl) rfl rfl g5 g6 k
  replace k := k.2
  by_cases c3 : v5 = (3 : Int32)
  · replace k := k.1 c3
    refine w_tsw (pc' := 281) dX12_deliver_210 (by rw [c3]; rfl) ?_
    refine w_aload_n dX12_deliver_281 rfl ?_
    refine w_iload dX12_deliver_282 rfl ?_
    refine w_fload dX12_deliver_284 rfl ?_
    obtain ⟨g7, k⟩ := k
    obtain ⟨g8, k⟩ := k
    exact w_virt (as1 := [.float v4, .int v6, .ref v0]) (as2 := [.ref v0, .int v6, .float v4]) (rest := []) (lo2 := [some (.ref v0), some (.int v6), some (.float v4), none, none]) dX12_deliver_286 c_12_211 rfl rfl rfl (Nat.le_of_ble_eq_true rfl) (Nat.le_of_ble_eq_true rfl) rfl (Nat.le_of_ble_eq_true rfl) rfl rfl g7 g8 k
  replace k := k.2
  by_cases c4 : v5 = (4 : Int32)
  · replace k := k.1 c4
    refine w_tsw (pc' := 292) dX12_deliver_210 (by rw [c4]; rfl) ?_
    refine w_aload_n dX12_deliver_292 rfl ?_
    refine w_iload dX12_deliver_293 rfl ?_
    obtain ⟨g9, k⟩ := k
    obtain ⟨g10, k⟩ := k
    exact w_virt (as1 := [.int v6, .ref v0]) (as2 := [.ref v0, .int v6]) (rest := []) (lo2 := [some (.ref v0), some (.int v6), none, none]) dX12_deliver_295 c_12_214 rfl rfl rfl (Nat.le_of_ble_eq_true rfl) (Nat.le_of_ble_eq_true rfl) rfl (Nat.le_of_ble_eq_true rfl) rfl rfl g9 g10 k
  replace k := k.2
  by_cases c5 : v5 = (5 : Int32)
  · replace k := k.1 c5
    refine w_tsw (pc' := 301) dX12_deliver_210 (by rw [c5]; rfl) ?_
    refine w_aload_n dX12_deliver_301 rfl ?_
    refine w_iload dX12_deliver_302 rfl ?_
    obtain ⟨g11, k⟩ := k
    obtain ⟨g12, k⟩ := k
    exact w_virt (as1 := [.int v6, .ref v0]) (as2 := [.ref v0, .int v6]) (rest := []) (lo2 := [some (.ref v0), some (.int v6), none, none, none]) dX12_deliver_304 c_12_217 rfl rfl rfl (Nat.le_of_ble_eq_true rfl) (Nat.le_of_ble_eq_true rfl) rfl (Nat.le_of_ble_eq_true rfl) rfl rfl g11 g12 k
  replace k := k.2
  by_cases c6 : v5 = (6 : Int32)
  · replace k := k.1 c6
    refine w_tsw (pc' := 310) dX12_deliver_210 (by rw [c6]; rfl) ?_
    refine w_aload_n dX12_deliver_310 rfl ?_
    refine w_iload dX12_deliver_311 rfl ?_
    obtain ⟨g13, k⟩ := k
    obtain ⟨g14, k⟩ := k
    exact w_virt (as1 := [.int v6, .ref v0]) (as2 := [.ref v0, .int v6]) (rest := []) (lo2 := [some (.ref v0), some (.int v6), none, none]) dX12_deliver_313 c_12_220 rfl rfl rfl (Nat.le_of_ble_eq_true rfl) (Nat.le_of_ble_eq_true rfl) rfl (Nat.le_of_ble_eq_true rfl) rfl rfl g13 g14 k
  replace k := k.2
  have e0 := ts_ne c0 (k := 0) rfl
  have e1 := ts_ne c1 (k := 1) rfl
  have e2 := ts_ne c2 (k := 2) rfl
  have e3 := ts_ne c3 (k := 3) rfl
  have e4 := ts_ne c4 (k := 4) rfl
  have e5 := ts_ne c5 (k := 5) rfl
  have e6 := ts_ne c6 (k := 6) rfl
  replace k := k ⟨c0, c1, c2, c3, c4, c5, c6⟩
  refine w_tsw (pc' := 319) dX12_deliver_210 (ts_def (x := v5) (by omega) rfl rfl) ?_
  refine w_aload_n dX12_deliver_319 rfl ?_
  refine w_iload dX12_deliver_320 rfl ?_
  obtain ⟨g15, k⟩ := k
  obtain ⟨g16, k⟩ := k
  exact w_virt (as1 := [.int v6, .ref v0]) (as2 := [.ref v0, .int v6]) (rest := []) (lo2 := [some (.ref v0), some (.int v6), none]) dX12_deliver_322 c_12_223 rfl rfl rfl (Nat.le_of_ble_eq_true rfl) (Nat.le_of_ble_eq_true rfl) rfl (Nat.le_of_ble_eq_true rfl) rfl rfl g15 g16 k
theorem bX12_deliver_258 {d : Nat} {h : HP} {Q : Out → HP → Prop} {v0 : Nat} {v1 : Int32} {v2 : Int32} {v3 : Int32} {v4 : UInt32} {v5 : Int32} {v6 : Int32} (k : WP d mX12_deliver 325 [some (.ref v0), some (.int v1), some (.int v2), some (.int v3), some (.float v4), some (.int v5), some (.int v6)] [] h Q) : WP d mX12_deliver 258 [some (.ref v0), some (.int v1), some (.int v2), some (.int v3), some (.float v4), some (.int v5), some (.int v6)] [] h Q := by
  refine w_goto (pc' := 325) dX12_deliver_258 rfl rfl ?_
  exact k
theorem bX12_deliver_267 {d : Nat} {h : HP} {Q : Out → HP → Prop} {v0 : Nat} {v1 : Int32} {v2 : Int32} {v3 : Int32} {v4 : UInt32} {v5 : Int32} {v6 : Int32} (k : WP d mX12_deliver 325 [some (.ref v0), some (.int v1), some (.int v2), some (.int v3), some (.float v4), some (.int v5), some (.int v6)] [] h Q) : WP d mX12_deliver 267 [some (.ref v0), some (.int v1), some (.int v2), some (.int v3), some (.float v4), some (.int v5), some (.int v6)] [] h Q := by
  refine w_goto (pc' := 325) dX12_deliver_267 rfl rfl ?_
  exact k
theorem bX12_deliver_278 {d : Nat} {h : HP} {Q : Out → HP → Prop} {v0 : Nat} {v1 : Int32} {v2 : Int32} {v3 : Int32} {v4 : UInt32} {v5 : Int32} {v6 : Int32} (k : WP d mX12_deliver 325 [some (.ref v0), some (.int v1), some (.int v2), some (.int v3), some (.float v4), some (.int v5), some (.int v6)] [] h Q) : WP d mX12_deliver 278 [some (.ref v0), some (.int v1), some (.int v2), some (.int v3), some (.float v4), some (.int v5), some (.int v6)] [] h Q := by
  refine w_goto (pc' := 325) dX12_deliver_278 rfl rfl ?_
  exact k
theorem bX12_deliver_289 {d : Nat} {h : HP} {Q : Out → HP → Prop} {v0 : Nat} {v1 : Int32} {v2 : Int32} {v3 : Int32} {v4 : UInt32} {v5 : Int32} {v6 : Int32} (k : WP d mX12_deliver 325 [some (.ref v0), some (.int v1), some (.int v2), some (.int v3), some (.float v4), some (.int v5), some (.int v6)] [] h Q) : WP d mX12_deliver 289 [some (.ref v0), some (.int v1), some (.int v2), some (.int v3), some (.float v4), some (.int v5), some (.int v6)] [] h Q := by
  refine w_goto (pc' := 325) dX12_deliver_289 rfl rfl ?_
  exact k
theorem bX12_deliver_298 {d : Nat} {h : HP} {Q : Out → HP → Prop} {v0 : Nat} {v1 : Int32} {v2 : Int32} {v3 : Int32} {v4 : UInt32} {v5 : Int32} {v6 : Int32} (k : WP d mX12_deliver 325 [some (.ref v0), some (.int v1), some (.int v2), some (.int v3), some (.float v4), some (.int v5), some (.int v6)] [] h Q) : WP d mX12_deliver 298 [some (.ref v0), some (.int v1), some (.int v2), some (.int v3), some (.float v4), some (.int v5), some (.int v6)] [] h Q := by
  refine w_goto (pc' := 325) dX12_deliver_298 rfl rfl ?_
  exact k
theorem bX12_deliver_307 {d : Nat} {h : HP} {Q : Out → HP → Prop} {v0 : Nat} {v1 : Int32} {v2 : Int32} {v3 : Int32} {v4 : UInt32} {v5 : Int32} {v6 : Int32} (k : WP d mX12_deliver 325 [some (.ref v0), some (.int v1), some (.int v2), some (.int v3), some (.float v4), some (.int v5), some (.int v6)] [] h Q) : WP d mX12_deliver 307 [some (.ref v0), some (.int v1), some (.int v2), some (.int v3), some (.float v4), some (.int v5), some (.int v6)] [] h Q := by
  refine w_goto (pc' := 325) dX12_deliver_307 rfl rfl ?_
  exact k
theorem bX12_deliver_316 {d : Nat} {h : HP} {Q : Out → HP → Prop} {v0 : Nat} {v1 : Int32} {v2 : Int32} {v3 : Int32} {v4 : UInt32} {v5 : Int32} {v6 : Int32} (k : WP d mX12_deliver 325 [some (.ref v0), some (.int v1), some (.int v2), some (.int v3), some (.float v4), some (.int v5), some (.int v6)] [] h Q) : WP d mX12_deliver 316 [some (.ref v0), some (.int v1), some (.int v2), some (.int v3), some (.float v4), some (.int v5), some (.int v6)] [] h Q := by
  refine w_goto (pc' := 325) dX12_deliver_316 rfl rfl ?_
  exact k
theorem bX12_deliver_325 {d : Nat} {h : HP} {Q : Out → HP → Prop} {v0 : Nat} {v1 : Int32} {v2 : Int32} {v3 : Int32} {v4 : UInt32} {v5 : Int32} {v6 : Int32} (k : (1 < v0) ∧ ((hK h v0 = 12) ∧ (WP d mX12_ends 0 [some (.ref v0), none] [] h (KK d mX12_deliver mX12_ends 326 [some (.ref v0), some (.int v1), some (.int v2), some (.int v3), some (.float v4), some (.int v5), some (.int v6)] [] Q)))) : WP (d + 1) mX12_deliver 325 [some (.ref v0), some (.int v1), some (.int v2), some (.int v3), some (.float v4), some (.int v5), some (.int v6)] [] h Q := by
  refine w_aload_n dX12_deliver_325 rfl ?_
  obtain ⟨g1, k⟩ := k
  obtain ⟨g2, k⟩ := k
  exact w_virt (as1 := [.ref v0]) (as2 := [.ref v0]) (rest := []) (lo2 := [some (.ref v0), none]) dX12_deliver_326 c_12_187 rfl rfl rfl (Nat.le_of_ble_eq_true rfl) (Nat.le_of_ble_eq_true rfl) rfl (Nat.le_of_ble_eq_true rfl) rfl rfl g1 g2 k
theorem bX12_deliver_329 {d : Nat} {h : HP} {Q : Out → HP → Prop} {v0 : Nat} {v1 : Int32} {v2 : Int32} {v3 : Int32} {v4 : UInt32} {v5 : Int32} {v6 : Int32} (k : (hK h v0 = 12) ∧ (Q (.inl (some (.int (hI h 1240 v0)))) h)) : WP d mX12_deliver 329 [some (.ref v0), some (.int v1), some (.int v2), some (.int v3), some (.float v4), some (.int v5), some (.int v6)] [] h Q := by
  refine w_aload_n dX12_deliver_329 rfl ?_
  obtain ⟨g1, k⟩ := k
  refine w_getI dX12_deliver_330 f_12_192 t_12_40 g1 ?_
  exact w_ireturn dX12_deliver_333 rfl k
theorem bX12_termAt_0 {d : Nat} {h : HP} {Q : Out → HP → Prop} {v0 : Nat} {v1 : Int32} {v2 : Int32} (k : ((¬ v2 = 0) → (hK h v0 = 12) ∧ ((hK h (hR h 1214 v0) = 20) ∧ ((inA h (hR h 1214 v0) ((((30 : Int32) * v1) + v2) - (1 : Int32)) = true) ∧ (Q (.inl (some (.int (hAI h (hR h 1214 v0) (((((30 : Int32) * v1) + v2) - (1 : Int32))).toNatClampNeg)))) h)))) ∧ ((¬ (¬ v2 = 0)) → Q (.inl (some (.int (0 : Int32)))) h)) : WP d mX12_termAt 0 [some (.ref v0), some (.int v1), some (.int v2)] [] h Q := by
  refine w_iload_n dX12_termAt_0 rfl ?_
  refine w_if_ne (pc' := 8) dX12_termAt_1 rfl rfl ⟨fun c => ?_, fun c => ?_⟩
  · replace k := k.1 c
    refine w_aload_n dX12_termAt_8 rfl ?_
    obtain ⟨g1, k⟩ := k
    refine w_getR dX12_termAt_9 f_12_48 t_12_14 g1 ?_
    refine w_bipush dX12_termAt_12 i2_30 ?_
    refine w_iload_n dX12_termAt_14 rfl ?_
    refine w_imul dX12_termAt_15 ?_
    refine w_iload_n dX12_termAt_16 rfl ?_
    refine w_iadd dX12_termAt_17 ?_
    refine w_iconst dX12_termAt_18 i1_1 ?_
    refine w_isub dX12_termAt_19 ?_
    obtain ⟨g2, k⟩ := k
    obtain ⟨g3, k⟩ := k
    refine w_iaload dX12_termAt_20 g2 g3 ?_
    exact w_ireturn dX12_termAt_21 rfl k
  · replace k := k.2 c
    refine w_iconst dX12_termAt_4 i1_0 ?_
    refine w_goto (pc' := 21) dX12_termAt_5 rfl rfl ?_
    exact w_ireturn dX12_termAt_21 rfl k
theorem bX12_promises_0 {d : Nat} {h : HP} {Q : Out → HP → Prop} {v0 : Nat} {v1 : Int32} (k : (hK h v0 = 12) ∧ ((hK h (hR h 1225 v0) = 20) ∧ ((inA h (hR h 1225 v0) v1 = true) ∧ ((((hAI h (hR h 1225 v0) (v1).toNatClampNeg) = (-1 : Int32)) → Q (.inl (some (.int (0 : Int32)))) h) ∧ ((¬ ((hAI h (hR h 1225 v0) (v1).toNatClampNeg) = (-1 : Int32))) → (hK h (hR h 1207 v0) = 22) ∧ ((inA h (hR h 1207 v0) v1 = true) ∧ ((hK h (hR h 1226 v0) = 22) ∧ ((inA h (hR h 1226 v0) v1 = true) ∧ (((0 ≤ (Op.cmpValue (FP.fcmp (hAF h (hR h 1207 v0) (v1).toNatClampNeg) (hAF h (hR h 1226 v0) (v1).toNatClampNeg)) .g)) → Q (.inl (some (.int (0 : Int32)))) h) ∧ ((¬ (0 ≤ (Op.cmpValue (FP.fcmp (hAF h (hR h 1207 v0) (v1).toNatClampNeg) (hAF h (hR h 1226 v0) (v1).toNatClampNeg)) .g))) → Q (.inl (some (.int (1 : Int32)))) h)))))))))) : WP d mX12_promises 0 [some (.ref v0), some (.int v1)] [] h Q := by
  refine w_aload_n dX12_promises_0 rfl ?_
  obtain ⟨g1, k⟩ := k
  refine w_getR dX12_promises_1 f_12_81 t_12_25 g1 ?_
  refine w_iload_n dX12_promises_4 rfl ?_
  obtain ⟨g2, k⟩ := k
  obtain ⟨g3, k⟩ := k
  refine w_iaload dX12_promises_5 g2 g3 ?_
  refine w_iconst dX12_promises_6 i1_m1 ?_
  refine w_ic_eq (pc' := 30) dX12_promises_7 rfl rfl ⟨fun c => ?_, fun c => ?_⟩
  · replace k := k.1 c
    refine w_iconst dX12_promises_30 i1_0 ?_
    exact w_ireturn dX12_promises_31 rfl k
  · replace k := k.2 c
    refine w_aload_n dX12_promises_10 rfl ?_
    refine w_getR dX12_promises_11 f_12_25 t_12_7 g1 ?_
    refine w_iload_n dX12_promises_14 rfl ?_
    obtain ⟨g4, k⟩ := k
    obtain ⟨g5, k⟩ := k
    refine w_faload dX12_promises_15 g4 g5 ?_
    refine w_aload_n dX12_promises_16 rfl ?_
    refine w_getR dX12_promises_17 f_12_84 t_12_26 g1 ?_
    refine w_iload_n dX12_promises_20 rfl ?_
    obtain ⟨g6, k⟩ := k
    obtain ⟨g7, k⟩ := k
    refine w_faload dX12_promises_21 g6 g7 ?_
    refine w_fcmp dX12_promises_22 ?_
    refine w_if_ge (pc' := 30) dX12_promises_23 rfl rfl ⟨fun c => ?_, fun c => ?_⟩
    · replace k := k.1 c
      refine w_iconst dX12_promises_30 i1_0 ?_
      exact w_ireturn dX12_promises_31 rfl k
    · replace k := k.2 c
      refine w_iconst dX12_promises_26 i1_1 ?_
      refine w_goto (pc' := 31) dX12_promises_27 rfl rfl ?_
      exact w_ireturn dX12_promises_31 rfl k
theorem bX12_stand_0 {d : Nat} {h : HP} {Q : Out → HP → Prop} {v0 : Nat} {v1 : Int32} {u2 : Option Value} {u3 : Option Value} {u4 : Option Value} {u5 : Option Value} (k : (1 < v0) ∧ ((hK h v0 = 12) ∧ (WP d mX12_isMachine 0 [some (.ref v0), some (.int v1)] [] h (KK d mX12_stand mX12_isMachine 2 [some (.ref v0), some (.int v1), u2, u3, u4, u5] [] Q)))) : WP (d + 1) mX12_stand 0 [some (.ref v0), some (.int v1), u2, u3, u4, u5] [] h Q := by
  refine w_aload_n dX12_stand_0 rfl ?_
  refine w_iload_n dX12_stand_1 rfl ?_
  obtain ⟨g1, k⟩ := k
  obtain ⟨g2, k⟩ := k
  exact w_virt (as1 := [.int v1, .ref v0]) (as2 := [.ref v0, .int v1]) (rest := []) (lo2 := [some (.ref v0), some (.int v1)]) dX12_stand_2 c_12_181 rfl rfl rfl (Nat.le_of_ble_eq_true rfl) (Nat.le_of_ble_eq_true rfl) rfl (Nat.le_of_ble_eq_true rfl) rfl rfl g1 g2 k
theorem bX12_stand_5 {d : Nat} {h : HP} {Q : Out → HP → Prop} {v0 : Nat} {v1 : Int32} {u2 : Option Value} {u3 : Option Value} {u4 : Option Value} {u5 : Option Value} {s0 : Int32} (k : ((s0 = 0) → (1 < v0) ∧ ((hK h v0 = 12) ∧ (WP d mX12_goes 0 [some (.ref v0), some (.int s0), some (.int (0 : Int32)), some (.int (1 : Int32))] [] h (KK d mX12_stand mX12_goes 45 [some (.ref v0), some (.int v1), some (.int s0), u3, u4, u5] [] Q)))) ∧ ((¬ (s0 = 0)) → (hK h v0 = 12) ∧ ((hK h (hR h 1205 v0) = 21) ∧ ((inA h (hR h 1205 v0) v1 = true) ∧ ((((hAI h (hR h 1205 v0) (v1).toNatClampNeg) = 0) → (1 < v0) ∧ (WP d mX12_goes 0 [some (.ref v0), some (.int s0), some (.int (0 : Int32)), some (.int (1 : Int32))] [] h (KK d mX12_stand mX12_goes 45 [some (.ref v0), some (.int v1), some (.int s0), u3, u4, u5] [] Q))) ∧ ((¬ ((hAI h (hR h 1205 v0) (v1).toNatClampNeg) = 0)) → (hK h (hR h 1211 v0) = 20) ∧ ((inA h (hR h 1211 v0) v1 = true) ∧ ((((hAI h (hR h 1211 v0) (v1).toNatClampNeg) = (2 : Int32)) → (1 < v0) ∧ (WP d mX12_goes 0 [some (.ref v0), some (.int s0), some (.int (0 : Int32)), some (.int (1 : Int32))] [] h (KK d mX12_stand mX12_goes 45 [some (.ref v0), some (.int v1), some (.int s0), u3, u4, u5] [] Q))) ∧ ((¬ ((hAI h (hR h 1211 v0) (v1).toNatClampNeg) = (2 : Int32))) → (1 < v0) ∧ (WP d mX12_promises 0 [some (.ref v0), some (.int v1)] [] h (KK d mX12_stand mX12_promises 33 [some (.ref v0), some (.int v1), some (.int s0), u3, u4, u5] [.int s0, .ref v0] Q))))))))))) : WP (d + 1) mX12_stand 5 [some (.ref v0), some (.int v1), u2, u3, u4, u5] [.int s0] h Q := by
  refine w_istore_n (lo' := [some (.ref v0), some (.int v1), some (.int s0), u3, u4, u5]) dX12_stand_5 (ltQ rfl) rfl ?_
  refine w_aload_n dX12_stand_6 rfl ?_
  refine w_iload_n dX12_stand_7 rfl ?_
  refine w_iload_n dX12_stand_8 rfl ?_
  refine w_if_eq (pc' := 43) dX12_stand_9 rfl rfl ⟨fun c => ?_, fun c => ?_⟩
  · replace k := k.1 c
    refine w_iconst dX12_stand_43 i1_0 ?_
    refine w_iconst dX12_stand_44 i1_1 ?_
    obtain ⟨g1, k⟩ := k
    obtain ⟨g2, k⟩ := k
    exact w_virt (as1 := [.int (1 : Int32), .int (0 : Int32), .int s0, .ref v0]) (as2 := [.ref v0, .int s0, .int (0 : Int32), .int (1 : Int32)]) (rest := []) (lo2 := [some (.ref v0), some (.int s0), some (.int (0 : Int32)), some (.int (1 : Int32))]) dX12_stand_45 c_12_173 rfl rfl rfl (Nat.le_of_ble_eq_true rfl) (Nat.le_of_ble_eq_true rfl) rfl (Nat.le_of_ble_eq_true rfl) rfl rfl g1 g2 k
  · replace k := k.2 c
    refine w_aload_n dX12_stand_12 rfl ?_
    obtain ⟨g3, k⟩ := k
    refine w_getR dX12_stand_13 f_12_18 t_12_5 g3 ?_
    refine w_iload_n dX12_stand_16 rfl ?_
    obtain ⟨g4, k⟩ := k
    obtain ⟨g5, k⟩ := k
    refine w_baload dX12_stand_17 g4 g5 ?_
    refine w_if_eq (pc' := 43) dX12_stand_18 rfl rfl ⟨fun c => ?_, fun c => ?_⟩
    · replace k := k.1 c
      refine w_iconst dX12_stand_43 i1_0 ?_
      refine w_iconst dX12_stand_44 i1_1 ?_
      obtain ⟨g6, k⟩ := k
      exact w_virt (as1 := [.int (1 : Int32), .int (0 : Int32), .int s0, .ref v0]) (as2 := [.ref v0, .int s0, .int (0 : Int32), .int (1 : Int32)]) (rest := []) (lo2 := [some (.ref v0), some (.int s0), some (.int (0 : Int32)), some (.int (1 : Int32))]) dX12_stand_45 c_12_173 rfl rfl rfl (Nat.le_of_ble_eq_true rfl) (Nat.le_of_ble_eq_true rfl) rfl (Nat.le_of_ble_eq_true rfl) rfl rfl g6 g3 k
    · replace k := k.2 c
      refine w_aload_n dX12_stand_21 rfl ?_
      refine w_getR dX12_stand_22 f_12_39 t_12_11 g3 ?_
      refine w_iload_n dX12_stand_25 rfl ?_
      obtain ⟨g7, k⟩ := k
      obtain ⟨g8, k⟩ := k
      refine w_iaload dX12_stand_26 g7 g8 ?_
      refine w_iconst dX12_stand_27 i1_2 ?_
      refine w_ic_eq (pc' := 43) dX12_stand_28 rfl rfl ⟨fun c => ?_, fun c => ?_⟩
      · replace k := k.1 c
        refine w_iconst dX12_stand_43 i1_0 ?_
        refine w_iconst dX12_stand_44 i1_1 ?_
        obtain ⟨g9, k⟩ := k
        exact w_virt (as1 := [.int (1 : Int32), .int (0 : Int32), .int s0, .ref v0]) (as2 := [.ref v0, .int s0, .int (0 : Int32), .int (1 : Int32)]) (rest := []) (lo2 := [some (.ref v0), some (.int s0), some (.int (0 : Int32)), some (.int (1 : Int32))]) dX12_stand_45 c_12_173 rfl rfl rfl (Nat.le_of_ble_eq_true rfl) (Nat.le_of_ble_eq_true rfl) rfl (Nat.le_of_ble_eq_true rfl) rfl rfl g9 g3 k
      · replace k := k.2 c
        refine w_aload_n dX12_stand_31 rfl ?_
        refine w_iload_n dX12_stand_32 rfl ?_
        obtain ⟨g10, k⟩ := k
        exact w_virt (as1 := [.int v1, .ref v0]) (as2 := [.ref v0, .int v1]) (rest := [.int s0, .ref v0]) (lo2 := [some (.ref v0), some (.int v1)]) dX12_stand_33 c_12_226 rfl rfl rfl (Nat.le_of_ble_eq_true rfl) (Nat.le_of_ble_eq_true rfl) rfl (Nat.le_of_ble_eq_true rfl) rfl rfl g10 g3 k
theorem bX12_stand_36 {d : Nat} {h : HP} {Q : Out → HP → Prop} {v0 : Nat} {v1 : Int32} {v2 : Int32} {u3 : Option Value} {u4 : Option Value} {u5 : Option Value} {s0 : Int32} {s1 : Int32} {s2 : Nat} (k : ((¬ s0 = 0) → (1 < s2) ∧ ((hK h s2 = 12) ∧ (WP d mX12_goes 0 [some (.ref s2), some (.int s1), some (.int (0 : Int32)), some (.int (1 : Int32))] [] h (KK d mX12_stand mX12_goes 45 [some (.ref v0), some (.int v1), some (.int v2), u3, u4, u5] [] Q)))) ∧ ((¬ (¬ s0 = 0)) → (1 < s2) ∧ ((hK h s2 = 12) ∧ (WP d mX12_goes 0 [some (.ref s2), some (.int s1), some (.int (1 : Int32)), some (.int (1 : Int32))] [] h (KK d mX12_stand mX12_goes 45 [some (.ref v0), some (.int v1), some (.int v2), u3, u4, u5] [] Q))))) : WP (d + 1) mX12_stand 36 [some (.ref v0), some (.int v1), some (.int v2), u3, u4, u5] [.int s0, .int s1, .ref s2] h Q := by
  refine w_if_ne (pc' := 43) dX12_stand_36 rfl rfl ⟨fun c => ?_, fun c => ?_⟩
  · replace k := k.1 c
    refine w_iconst dX12_stand_43 i1_0 ?_
    refine w_iconst dX12_stand_44 i1_1 ?_
    obtain ⟨g1, k⟩ := k
    obtain ⟨g2, k⟩ := k
    exact w_virt (as1 := [.int (1 : Int32), .int (0 : Int32), .int s1, .ref s2]) (as2 := [.ref s2, .int s1, .int (0 : Int32), .int (1 : Int32)]) (rest := []) (lo2 := [some (.ref s2), some (.int s1), some (.int (0 : Int32)), some (.int (1 : Int32))]) dX12_stand_45 c_12_173 rfl rfl rfl (Nat.le_of_ble_eq_true rfl) (Nat.le_of_ble_eq_true rfl) rfl (Nat.le_of_ble_eq_true rfl) rfl rfl g1 g2 k
  · replace k := k.2 c
    refine w_iconst dX12_stand_39 i1_1 ?_
    refine w_goto (pc' := 44) dX12_stand_40 rfl rfl ?_
    refine w_iconst dX12_stand_44 i1_1 ?_
    obtain ⟨g3, k⟩ := k
    obtain ⟨g4, k⟩ := k
    exact w_virt (as1 := [.int (1 : Int32), .int (1 : Int32), .int s1, .ref s2]) (as2 := [.ref s2, .int s1, .int (1 : Int32), .int (1 : Int32)]) (rest := []) (lo2 := [some (.ref s2), some (.int s1), some (.int (1 : Int32)), some (.int (1 : Int32))]) dX12_stand_45 c_12_173 rfl rfl rfl (Nat.le_of_ble_eq_true rfl) (Nat.le_of_ble_eq_true rfl) rfl (Nat.le_of_ble_eq_true rfl) rfl rfl g3 g4 k
theorem bX12_stand_48 {d : Nat} {h : HP} {Q : Out → HP → Prop} {v0 : Nat} {v1 : Int32} {v2 : Int32} {u3 : Option Value} {u4 : Option Value} {u5 : Option Value} {s0 : Int32} (k : ((¬ s0 = 0) → (hK h v0 = 12) ∧ ((hK (sI h 1204 v0 ((hI h 1204 v0) + (1 : Int32))) v0 = 12) ∧ ((hK (sI h 1204 v0 ((hI h 1204 v0) + (1 : Int32))) (hR (sI h 1204 v0 ((hI h 1204 v0) + (1 : Int32))) 1209 v0) = 20) ∧ ((inA (sI h 1204 v0 ((hI h 1204 v0) + (1 : Int32))) (hR (sI h 1204 v0 ((hI h 1204 v0) + (1 : Int32))) 1209 v0) v1 = true) ∧ ((hK (sAI (sI h 1204 v0 ((hI h 1204 v0) + (1 : Int32))) (hR (sI h 1204 v0 ((hI h 1204 v0) + (1 : Int32))) 1209 v0) (v1).toNatClampNeg ((hAI (sI h 1204 v0 ((hI h 1204 v0) + (1 : Int32))) (hR (sI h 1204 v0 ((hI h 1204 v0) + (1 : Int32))) 1209 v0) (v1).toNatClampNeg) + (1 : Int32))) v0 = 12) ∧ (WP d mX12_stand 79 [some (.ref v0), some (.int v1), some (.int v2), some (.int v1), u4, u5] [.ref (hR (sAI (sI h 1204 v0 ((hI h 1204 v0) + (1 : Int32))) (hR (sI h 1204 v0 ((hI h 1204 v0) + (1 : Int32))) 1209 v0) (v1).toNatClampNeg ((hAI (sI h 1204 v0 ((hI h 1204 v0) + (1 : Int32))) (hR (sI h 1204 v0 ((hI h 1204 v0) + (1 : Int32))) 1209 v0) (v1).toNatClampNeg) + (1 : Int32))) 1210 v0)] (sAI (sI h 1204 v0 ((hI h 1204 v0) + (1 : Int32))) (hR (sI h 1204 v0 ((hI h 1204 v0) + (1 : Int32))) 1209 v0) (v1).toNatClampNeg ((hAI (sI h 1204 v0 ((hI h 1204 v0) + (1 : Int32))) (hR (sI h 1204 v0 ((hI h 1204 v0) + (1 : Int32))) 1209 v0) (v1).toNatClampNeg) + (1 : Int32))) Q)))))) ∧ ((¬ (¬ s0 = 0)) → Q (.inl (some (.int (0 : Int32)))) h)) : WP d mX12_stand 48 [some (.ref v0), some (.int v1), some (.int v2), u3, u4, u5] [.int s0] h Q := by
  refine w_if_ne (pc' := 53) dX12_stand_48 rfl rfl ⟨fun c => ?_, fun c => ?_⟩
  · replace k := k.1 c
    refine w_aload_n dX12_stand_53 rfl ?_
    refine w_dup dX12_stand_54 rfl ?_
    obtain ⟨g1, k⟩ := k
    refine w_getI dX12_stand_55 f_12_164 t_12_4 g1 ?_
    refine w_iconst dX12_stand_58 i1_1 ?_
    refine w_iadd dX12_stand_59 ?_
    refine w_putI dX12_stand_60 f_12_164 t_12_4 (pf_nf n_12_4) g1 ?_
    refine w_iload_n dX12_stand_63 rfl ?_
    refine w_istore_n (lo' := [some (.ref v0), some (.int v1), some (.int v2), some (.int v1), u4, u5]) dX12_stand_64 (ltQ rfl) rfl ?_
    refine w_aload_n dX12_stand_65 rfl ?_
    obtain ⟨g2, k⟩ := k
    refine w_getR dX12_stand_66 f_12_32 t_12_9 g2 ?_
    refine w_iload_n dX12_stand_69 rfl ?_
    refine w_dup2 dX12_stand_70 rfl rfl ?_
    obtain ⟨g3, k⟩ := k
    obtain ⟨g4, k⟩ := k
    refine w_iaload dX12_stand_71 g3 g4 ?_
    refine w_iconst dX12_stand_72 i1_1 ?_
    refine w_iadd dX12_stand_73 ?_
    refine w_iastore dX12_stand_74 g3 g4 ?_
    refine w_aload_n dX12_stand_75 rfl ?_
    obtain ⟨g5, k⟩ := k
    refine w_getR dX12_stand_76 f_12_36 t_12_10 g5 ?_
    exact k
  · replace k := k.2 c
    refine w_iconst dX12_stand_51 i1_0 ?_
    exact w_ireturn dX12_stand_52 rfl k
theorem bX12_stand_79 {d : Nat} {h : HP} {Q : Out → HP → Prop} {v0 : Nat} {v1 : Int32} {v2 : Int32} {v3 : Int32} {u4 : Option Value} {u5 : Option Value} {s0 : Nat} (k : (hK h s0 = 20) ∧ ((inA h s0 v3 = true) ∧ ((hK (sAI h s0 (v3).toNatClampNeg v3) v0 = 12) ∧ ((hK (sAI h s0 (v3).toNatClampNeg v3) (hR (sAI h s0 (v3).toNatClampNeg v3) 1211 v0) = 20) ∧ ((inA (sAI h s0 (v3).toNatClampNeg v3) (hR (sAI h s0 (v3).toNatClampNeg v3) 1211 v0) v3 = true) ∧ ((hK (sAI (sAI h s0 (v3).toNatClampNeg v3) (hR (sAI h s0 (v3).toNatClampNeg v3) 1211 v0) (v3).toNatClampNeg (1 : Int32)) v0 = 12) ∧ ((hK (sAI (sAI h s0 (v3).toNatClampNeg v3) (hR (sAI h s0 (v3).toNatClampNeg v3) 1211 v0) (v3).toNatClampNeg (1 : Int32)) (hR (sAI (sAI h s0 (v3).toNatClampNeg v3) (hR (sAI h s0 (v3).toNatClampNeg v3) 1211 v0) (v3).toNatClampNeg (1 : Int32)) 1223 v0) = 21) ∧ ((inA (sAI (sAI h s0 (v3).toNatClampNeg v3) (hR (sAI h s0 (v3).toNatClampNeg v3) 1211 v0) (v3).toNatClampNeg (1 : Int32)) (hR (sAI (sAI h s0 (v3).toNatClampNeg v3) (hR (sAI h s0 (v3).toNatClampNeg v3) 1211 v0) (v3).toNatClampNeg (1 : Int32)) 1223 v0) v3 = true) ∧ ((hK (sAI (sAI (sAI h s0 (v3).toNatClampNeg v3) (hR (sAI h s0 (v3).toNatClampNeg v3) 1211 v0) (v3).toNatClampNeg (1 : Int32)) (hR (sAI (sAI h s0 (v3).toNatClampNeg v3) (hR (sAI h s0 (v3).toNatClampNeg v3) 1211 v0) (v3).toNatClampNeg (1 : Int32)) 1223 v0) (v3).toNatClampNeg (0 : Int32)) v0 = 12) ∧ (WP d mX12_stand 100 [some (.ref v0), some (.int v1), some (.int v2), some (.int v3), u4, u5] [.ref (hR (sAI (sAI (sAI h s0 (v3).toNatClampNeg v3) (hR (sAI h s0 (v3).toNatClampNeg v3) 1211 v0) (v3).toNatClampNeg (1 : Int32)) (hR (sAI (sAI h s0 (v3).toNatClampNeg v3) (hR (sAI h s0 (v3).toNatClampNeg v3) 1211 v0) (v3).toNatClampNeg (1 : Int32)) 1223 v0) (v3).toNatClampNeg (0 : Int32)) 1218 v0)] (sAI (sAI (sAI h s0 (v3).toNatClampNeg v3) (hR (sAI h s0 (v3).toNatClampNeg v3) 1211 v0) (v3).toNatClampNeg (1 : Int32)) (hR (sAI (sAI h s0 (v3).toNatClampNeg v3) (hR (sAI h s0 (v3).toNatClampNeg v3) 1211 v0) (v3).toNatClampNeg (1 : Int32)) 1223 v0) (v3).toNatClampNeg (0 : Int32)) Q)))))))))) : WP d mX12_stand 79 [some (.ref v0), some (.int v1), some (.int v2), some (.int v3), u4, u5] [.ref s0] h Q := by
  refine w_iload_n dX12_stand_79 rfl ?_
  refine w_iload_n dX12_stand_80 rfl ?_
  obtain ⟨g1, k⟩ := k
  obtain ⟨g2, k⟩ := k
  refine w_iastore dX12_stand_81 g1 g2 ?_
  refine w_aload_n dX12_stand_82 rfl ?_
  obtain ⟨g3, k⟩ := k
  refine w_getR dX12_stand_83 f_12_39 t_12_11 g3 ?_
  refine w_iload_n dX12_stand_86 rfl ?_
  refine w_iconst dX12_stand_87 i1_1 ?_
  obtain ⟨g4, k⟩ := k
  obtain ⟨g5, k⟩ := k
  refine w_iastore dX12_stand_88 g4 g5 ?_
  refine w_aload_n dX12_stand_89 rfl ?_
  obtain ⟨g6, k⟩ := k
  refine w_getR dX12_stand_90 f_12_75 t_12_23 g6 ?_
  refine w_iload_n dX12_stand_93 rfl ?_
  refine w_iconst dX12_stand_94 i1_0 ?_
  obtain ⟨g7, k⟩ := k
  obtain ⟨g8, k⟩ := k
  refine w_bastore dX12_stand_95 g7 g8 rfl ?_
  refine w_aload_n dX12_stand_96 rfl ?_
  obtain ⟨g9, k⟩ := k
  refine w_getR dX12_stand_97 f_12_60 t_12_18 g9 ?_
  exact k
theorem bX12_stand_100 {d : Nat} {h : HP} {Q : Out → HP → Prop} {v0 : Nat} {v1 : Int32} {v2 : Int32} {v3 : Int32} {u4 : Option Value} {u5 : Option Value} {s0 : Nat} (k : (hK h s0 = 20) ∧ ((inA h s0 v3 = true) ∧ (WP d mX12_stand 108 [some (.ref v0), some (.int v1), some (.int v2), some (.int v3), some (.int (0 : Int32)), u5] [] (sAI h s0 (v3).toNatClampNeg ((1 : Int32) <<< (v3 &&& 31))) Q))) : WP d mX12_stand 100 [some (.ref v0), some (.int v1), some (.int v2), some (.int v3), u4, u5] [.ref s0] h Q := by
  refine w_iload_n dX12_stand_100 rfl ?_
  refine w_iconst dX12_stand_101 i1_1 ?_
  refine w_iload_n dX12_stand_102 rfl ?_
  refine w_ishl dX12_stand_103 ?_
  obtain ⟨g1, k⟩ := k
  obtain ⟨g2, k⟩ := k
  refine w_iastore dX12_stand_104 g1 g2 ?_
  refine w_iconst dX12_stand_105 i1_0 ?_
  refine w_istore (lo' := [some (.ref v0), some (.int v1), some (.int v2), some (.int v3), some (.int (0 : Int32)), u5]) dX12_stand_106 (ltQ rfl) rfl ?_
  exact k
theorem bX12_stand_108 {d : Nat} {h : HP} {Q : Out → HP → Prop} {v0 : Nat} {v1 : Int32} {v2 : Int32} {v3 : Int32} {v4 : Int32} {u5 : Option Value} (k : (hK h v0 = 12) ∧ ((((hI h 1200 v0) ≤ v4) → (1 < v0) ∧ (WP d mX12_ends 0 [some (.ref v0), none] [] h (KK d mX12_stand mX12_ends 187 [some (.ref v0), some (.int v1), some (.int v2), some (.int v3), some (.int v4), u5] [] Q))) ∧ ((¬ ((hI h 1200 v0) ≤ v4)) → ((v4 = v3) → WP (d + 1) mX12_stand 108 [some (.ref v0), some (.int v1), some (.int v2), some (.int v3), some (.int (v4 + (1 : Int32))), u5] [] h Q) ∧ ((¬ (v4 = v3)) → (hK h (hR h 1209 v0) = 20) ∧ ((inA h (hR h 1209 v0) v3 = true) ∧ ((1 < v0) ∧ (WP d mX12_sends 0 [some (.ref v0), some (.int (0 : Int32)), some (.int v3), some (.int v4), some (.int (hAI h (hR h 1209 v0) (v3).toNatClampNeg)), none, none] [] h (KK d mX12_stand mX12_sends 134 [some (.ref v0), some (.int v1), some (.int v2), some (.int v3), some (.int v4), u5] [] Q)))))))) : WP (d + 1) mX12_stand 108 [some (.ref v0), some (.int v1), some (.int v2), some (.int v3), some (.int v4), u5] [] h Q := by
  refine w_iload dX12_stand_108 rfl ?_
  refine w_aload_n dX12_stand_110 rfl ?_
  obtain ⟨g1, k⟩ := k
  refine w_getI dX12_stand_111 f_12_7 t_12_0 g1 ?_
  refine w_ic_ge (pc' := 186) dX12_stand_114 rfl rfl ⟨fun c => ?_, fun c => ?_⟩
  · replace k := k.1 c
    refine w_aload_n dX12_stand_186 rfl ?_
    obtain ⟨g2, k⟩ := k
    exact w_virt (as1 := [.ref v0]) (as2 := [.ref v0]) (rest := []) (lo2 := [some (.ref v0), none]) dX12_stand_187 c_12_187 rfl rfl rfl (Nat.le_of_ble_eq_true rfl) (Nat.le_of_ble_eq_true rfl) rfl (Nat.le_of_ble_eq_true rfl) rfl rfl g2 g1 k
  · replace k := k.2 c
    refine w_iload dX12_stand_117 rfl ?_
    refine w_iload_n dX12_stand_119 rfl ?_
    refine w_ic_eq (pc' := 180) dX12_stand_120 rfl rfl ⟨fun c => ?_, fun c => ?_⟩
    · replace k := k.1 c
      refine w_iinc (lo' := [some (.ref v0), some (.int v1), some (.int v2), some (.int v3), some (.int (v4 + (1 : Int32))), u5]) dX12_stand_180 rfl i1_1 rfl ?_
      refine w_goto (pc' := 108) dX12_stand_183 rfl rfl ?_
      exact k
    · replace k := k.2 c
      refine w_aload_n dX12_stand_123 rfl ?_
      refine w_iconst dX12_stand_124 i1_0 ?_
      refine w_iload_n dX12_stand_125 rfl ?_
      refine w_iload dX12_stand_126 rfl ?_
      refine w_aload_n dX12_stand_128 rfl ?_
      refine w_getR dX12_stand_129 f_12_32 t_12_9 g1 ?_
      refine w_iload_n dX12_stand_132 rfl ?_
      obtain ⟨g3, k⟩ := k
      obtain ⟨g4, k⟩ := k
      refine w_iaload dX12_stand_133 g3 g4 ?_
      obtain ⟨g5, k⟩ := k
      exact w_virt (as1 := [.int (hAI h (hR h 1209 v0) (v3).toNatClampNeg), .int v4, .int v3, .int (0 : Int32), .ref v0]) (as2 := [.ref v0, .int (0 : Int32), .int v3, .int v4, .int (hAI h (hR h 1209 v0) (v3).toNatClampNeg)]) (rest := []) (lo2 := [some (.ref v0), some (.int (0 : Int32)), some (.int v3), some (.int v4), some (.int (hAI h (hR h 1209 v0) (v3).toNatClampNeg)), none, none]) dX12_stand_134 c_12_229 rfl rfl rfl (Nat.le_of_ble_eq_true rfl) (Nat.le_of_ble_eq_true rfl) rfl (Nat.le_of_ble_eq_true rfl) rfl rfl g5 g1 k
theorem bX12_stand_137 {d : Nat} {h : HP} {Q : Out → HP → Prop} {v0 : Nat} {v1 : Int32} {v2 : Int32} {v3 : Int32} {v4 : Int32} {u5 : Option Value} {s0 : Int32} (k : ((s0 = (-1 : Int32)) → WP (d + 1) mX12_stand 108 [some (.ref v0), some (.int v1), some (.int v2), some (.int v3), some (.int (v4 + (1 : Int32))), some (.int s0)] [] h Q) ∧ ((¬ (s0 = (-1 : Int32))) → (hK h v0 = 12) ∧ ((hK h (hR h 1212 v0) = 20) ∧ ((inA h (hR h 1212 v0) v3 = true) ∧ ((hK h (hR h 1237 v0) = 20) ∧ ((inA h (hR h 1237 v0) (s0 + (4 : Int32)) = true) ∧ ((hK (sAI h (hR h 1237 v0) ((s0 + (4 : Int32))).toNatClampNeg (hAI h (hR h 1212 v0) (v3).toNatClampNeg)) v0 = 12) ∧ ((hK (sAI h (hR h 1237 v0) ((s0 + (4 : Int32))).toNatClampNeg (hAI h (hR h 1212 v0) (v3).toNatClampNeg)) (hR (sAI h (hR h 1237 v0) ((s0 + (4 : Int32))).toNatClampNeg (hAI h (hR h 1212 v0) (v3).toNatClampNeg)) 1212 v0) = 20) ∧ ((inA (sAI h (hR h 1237 v0) ((s0 + (4 : Int32))).toNatClampNeg (hAI h (hR h 1212 v0) (v3).toNatClampNeg)) (hR (sAI h (hR h 1237 v0) ((s0 + (4 : Int32))).toNatClampNeg (hAI h (hR h 1212 v0) (v3).toNatClampNeg)) 1212 v0) v3 = true) ∧ ((1 < v0) ∧ (WP d mX12_termAt 0 [some (.ref v0), some (.int v3), some (.int (hAI (sAI h (hR h 1237 v0) ((s0 + (4 : Int32))).toNatClampNeg (hAI h (hR h 1212 v0) (v3).toNatClampNeg)) (hR (sAI h (hR h 1237 v0) ((s0 + (4 : Int32))).toNatClampNeg (hAI h (hR h 1212 v0) (v3).toNatClampNeg)) 1212 v0) (v3).toNatClampNeg))] [] (sAI h (hR h 1237 v0) ((s0 + (4 : Int32))).toNatClampNeg (hAI h (hR h 1212 v0) (v3).toNatClampNeg)) (KK d mX12_stand mX12_termAt 176 [some (.ref v0), some (.int v1), some (.int v2), some (.int v3), some (.int v4), some (.int s0)] [.int (s0 + (5 : Int32)), .ref (hR (sAI h (hR h 1237 v0) ((s0 + (4 : Int32))).toNatClampNeg (hAI h (hR h 1212 v0) (v3).toNatClampNeg)) 1237 v0)] Q)))))))))))) : WP (d + 1) mX12_stand 137 [some (.ref v0), some (.int v1), some (.int v2), some (.int v3), some (.int v4), u5] [.int s0] h Q := by
  refine w_istore (lo' := [some (.ref v0), some (.int v1), some (.int v2), some (.int v3), some (.int v4), some (.int s0)]) dX12_stand_137 (ltQ rfl) rfl ?_
  refine w_iload dX12_stand_139 rfl ?_
  refine w_iconst dX12_stand_141 i1_m1 ?_
  refine w_ic_eq (pc' := 180) dX12_stand_142 rfl rfl ⟨fun c => ?_, fun c => ?_⟩
  · replace k := k.1 c
    refine w_iinc (lo' := [some (.ref v0), some (.int v1), some (.int v2), some (.int v3), some (.int (v4 + (1 : Int32))), some (.int s0)]) dX12_stand_180 rfl i1_1 rfl ?_
    refine w_goto (pc' := 108) dX12_stand_183 rfl rfl ?_
    exact k
  · replace k := k.2 c
    refine w_aload_n dX12_stand_145 rfl ?_
    obtain ⟨g1, k⟩ := k
    refine w_getR dX12_stand_146 f_12_117 t_12_37 g1 ?_
    refine w_iload dX12_stand_149 rfl ?_
    refine w_iconst dX12_stand_151 i1_4 ?_
    refine w_iadd dX12_stand_152 ?_
    refine w_aload_n dX12_stand_153 rfl ?_
    refine w_getR dX12_stand_154 f_12_42 t_12_12 g1 ?_
    refine w_iload_n dX12_stand_157 rfl ?_
    obtain ⟨g2, k⟩ := k
    obtain ⟨g3, k⟩ := k
    refine w_iaload dX12_stand_158 g2 g3 ?_
    obtain ⟨g4, k⟩ := k
    obtain ⟨g5, k⟩ := k
    refine w_iastore dX12_stand_159 g4 g5 ?_
    refine w_aload_n dX12_stand_160 rfl ?_
    obtain ⟨g6, k⟩ := k
    refine w_getR dX12_stand_161 f_12_117 t_12_37 g6 ?_
    refine w_iload dX12_stand_164 rfl ?_
    refine w_iconst dX12_stand_166 i1_5 ?_
    refine w_iadd dX12_stand_167 ?_
    refine w_aload_n dX12_stand_168 rfl ?_
    refine w_iload_n dX12_stand_169 rfl ?_
    refine w_aload_n dX12_stand_170 rfl ?_
    refine w_getR dX12_stand_171 f_12_42 t_12_12 g6 ?_
    refine w_iload_n dX12_stand_174 rfl ?_
    obtain ⟨g7, k⟩ := k
    obtain ⟨g8, k⟩ := k
    refine w_iaload dX12_stand_175 g7 g8 ?_
    obtain ⟨g9, k⟩ := k
    exact w_virt (as1 := [.int (hAI (sAI h (hR h 1237 v0) ((s0 + (4 : Int32))).toNatClampNeg (hAI h (hR h 1212 v0) (v3).toNatClampNeg)) (hR (sAI h (hR h 1237 v0) ((s0 + (4 : Int32))).toNatClampNeg (hAI h (hR h 1212 v0) (v3).toNatClampNeg)) 1212 v0) (v3).toNatClampNeg), .int v3, .ref v0]) (as2 := [.ref v0, .int v3, .int (hAI (sAI h (hR h 1237 v0) ((s0 + (4 : Int32))).toNatClampNeg (hAI h (hR h 1212 v0) (v3).toNatClampNeg)) (hR (sAI h (hR h 1237 v0) ((s0 + (4 : Int32))).toNatClampNeg (hAI h (hR h 1212 v0) (v3).toNatClampNeg)) 1212 v0) (v3).toNatClampNeg)]) (rest := [.int (s0 + (5 : Int32)), .ref (hR (sAI h (hR h 1237 v0) ((s0 + (4 : Int32))).toNatClampNeg (hAI h (hR h 1212 v0) (v3).toNatClampNeg)) 1237 v0)]) (lo2 := [some (.ref v0), some (.int v3), some (.int (hAI (sAI h (hR h 1237 v0) ((s0 + (4 : Int32))).toNatClampNeg (hAI h (hR h 1212 v0) (v3).toNatClampNeg)) (hR (sAI h (hR h 1237 v0) ((s0 + (4 : Int32))).toNatClampNeg (hAI h (hR h 1212 v0) (v3).toNatClampNeg)) 1212 v0) (v3).toNatClampNeg))]) dX12_stand_176 c_12_233 rfl rfl rfl (Nat.le_of_ble_eq_true rfl) (Nat.le_of_ble_eq_true rfl) rfl (Nat.le_of_ble_eq_true rfl) rfl rfl g9 g6 k
theorem bX12_stand_179 {d : Nat} {h : HP} {Q : Out → HP → Prop} {v0 : Nat} {v1 : Int32} {v2 : Int32} {v3 : Int32} {v4 : Int32} {v5 : Int32} {s0 : Int32} {s1 : Int32} {s2 : Nat} (k : (hK h s2 = 20) ∧ ((inA h s2 s1 = true) ∧ (WP d mX12_stand 108 [some (.ref v0), some (.int v1), some (.int v2), some (.int v3), some (.int (v4 + (1 : Int32))), some (.int v5)] [] (sAI h s2 (s1).toNatClampNeg s0) Q))) : WP d mX12_stand 179 [some (.ref v0), some (.int v1), some (.int v2), some (.int v3), some (.int v4), some (.int v5)] [.int s0, .int s1, .ref s2] h Q := by
  obtain ⟨g1, k⟩ := k
  obtain ⟨g2, k⟩ := k
  refine w_iastore dX12_stand_179 g1 g2 ?_
  refine w_iinc (lo' := [some (.ref v0), some (.int v1), some (.int v2), some (.int v3), some (.int (v4 + (1 : Int32))), some (.int v5)]) dX12_stand_180 rfl i1_1 rfl ?_
  refine w_goto (pc' := 108) dX12_stand_183 rfl rfl ?_
  exact k
theorem bX12_stand_190 {d : Nat} {h : HP} {Q : Out → HP → Prop} {v0 : Nat} {v1 : Int32} {v2 : Int32} {v3 : Int32} {v4 : Int32} {u5 : Option Value} (k : (hK h v0 = 12) ∧ ((hK h (hR h 1209 v0) = 20) ∧ ((inA h (hR h 1209 v0) v3 = true) ∧ (Q (.inl (some (.int (hAI h (hR h 1209 v0) (v3).toNatClampNeg)))) h)))) : WP d mX12_stand 190 [some (.ref v0), some (.int v1), some (.int v2), some (.int v3), some (.int v4), u5] [] h Q := by
  refine w_aload_n dX12_stand_190 rfl ?_
  obtain ⟨g1, k⟩ := k
  refine w_getR dX12_stand_191 f_12_32 t_12_9 g1 ?_
  refine w_iload_n dX12_stand_194 rfl ?_
  obtain ⟨g2, k⟩ := k
  obtain ⟨g3, k⟩ := k
  refine w_iaload dX12_stand_195 g2 g3 ?_
  exact w_ireturn dX12_stand_196 rfl k
theorem bX12_asked_0 {d : Nat} {h : HP} {Q : Out → HP → Prop} {v0 : Nat} {v1 : Int32} {u2 : Option Value} {u3 : Option Value} {u4 : Option Value} {u5 : Option Value} {u6 : Option Value} {u7 : Option Value} (k : (hK h v0 = 12) ∧ ((hK h (hR h 1249 v0) = 20) ∧ ((inA h (hR h 1249 v0) (1 : Int32) = true) ∧ ((hK h (hR h 1212 v0) = 20) ∧ ((inA h (hR h 1212 v0) v1 = true) ∧ ((1 < v0) ∧ (WP d mX12_termAt 0 [some (.ref v0), some (.int v1), some (.int (hAI h (hR h 1212 v0) (v1).toNatClampNeg))] [] h (KK d mX12_asked mX12_termAt 15 [some (.ref v0), some (.int v1), some (.int (hAI h (hR h 1249 v0) ((1 : Int32)).toNatClampNeg)), u3, u4, u5, u6, u7] [] Q)))))))) : WP (d + 1) mX12_asked 0 [some (.ref v0), some (.int v1), u2, u3, u4, u5, u6, u7] [] h Q := by
  refine w_aload_n dX12_asked_0 rfl ?_
  obtain ⟨g1, k⟩ := k
  refine w_getR dX12_asked_1 f_12_144 t_12_49 g1 ?_
  refine w_iconst dX12_asked_4 i1_1 ?_
  obtain ⟨g2, k⟩ := k
  obtain ⟨g3, k⟩ := k
  refine w_iaload dX12_asked_5 g2 g3 ?_
  refine w_istore_n (lo' := [some (.ref v0), some (.int v1), some (.int (hAI h (hR h 1249 v0) ((1 : Int32)).toNatClampNeg)), u3, u4, u5, u6, u7]) dX12_asked_6 (ltQ rfl) rfl ?_
  refine w_aload_n dX12_asked_7 rfl ?_
  refine w_iload_n dX12_asked_8 rfl ?_
  refine w_aload_n dX12_asked_9 rfl ?_
  refine w_getR dX12_asked_10 f_12_42 t_12_12 g1 ?_
  refine w_iload_n dX12_asked_13 rfl ?_
  obtain ⟨g4, k⟩ := k
  obtain ⟨g5, k⟩ := k
  refine w_iaload dX12_asked_14 g4 g5 ?_
  obtain ⟨g6, k⟩ := k
  exact w_virt (as1 := [.int (hAI h (hR h 1212 v0) (v1).toNatClampNeg), .int v1, .ref v0]) (as2 := [.ref v0, .int v1, .int (hAI h (hR h 1212 v0) (v1).toNatClampNeg)]) (rest := []) (lo2 := [some (.ref v0), some (.int v1), some (.int (hAI h (hR h 1212 v0) (v1).toNatClampNeg))]) dX12_asked_15 c_12_233 rfl rfl rfl (Nat.le_of_ble_eq_true rfl) (Nat.le_of_ble_eq_true rfl) rfl (Nat.le_of_ble_eq_true rfl) rfl rfl g6 g1 k
theorem bX12_asked_18 {d : Nat} {h : HP} {Q : Out → HP → Prop} {v0 : Nat} {v1 : Int32} {v2 : Int32} {u3 : Option Value} {u4 : Option Value} {u5 : Option Value} {u6 : Option Value} {u7 : Option Value} {s0 : Int32} (k : (hK h v0 = 12) ∧ ((hK h (hR h 1249 v0) = 20) ∧ ((inA h (hR h 1249 v0) (5 : Int32) = true) ∧ (((s0 < (hAI h (hR h 1249 v0) ((5 : Int32)).toNatClampNeg)) → WP d mX12_asked 54 [some (.ref v0), some (.int v1), some (.int v2), some (.int s0), u4, u5, u6, u7] [] h Q) ∧ ((¬ (s0 < (hAI h (hR h 1249 v0) ((5 : Int32)).toNatClampNeg))) → ((¬ (hAI h (hR h 1249 v0) ((5 : Int32)).toNatClampNeg) = s0) → WP d mX12_asked 58 [some (.ref v0), some (.int v1), some (.int v2), some (.int s0), u4, u5, u6, u7] [] h Q) ∧ ((¬ (¬ (hAI h (hR h 1249 v0) ((5 : Int32)).toNatClampNeg) = s0)) → (inA h (hR h 1249 v0) (4 : Int32) = true) ∧ ((hK h (hR h 1212 v0) = 20) ∧ ((inA h (hR h 1212 v0) v1 = true) ∧ ((((hAI h (hR h 1249 v0) ((4 : Int32)).toNatClampNeg) < (hAI h (hR h 1212 v0) (v1).toNatClampNeg)) → WP d mX12_asked 58 [some (.ref v0), some (.int v1), some (.int v2), some (.int s0), u4, u5, u6, u7] [] h Q) ∧ ((¬ ((hAI h (hR h 1249 v0) ((4 : Int32)).toNatClampNeg) < (hAI h (hR h 1212 v0) (v1).toNatClampNeg))) → WP d mX12_asked 54 [some (.ref v0), some (.int v1), some (.int v2), some (.int s0), u4, u5, u6, u7] [] h Q)))))))))) : WP d mX12_asked 18 [some (.ref v0), some (.int v1), some (.int v2), u3, u4, u5, u6, u7] [.int s0] h Q := by
  refine w_istore_n (lo' := [some (.ref v0), some (.int v1), some (.int v2), some (.int s0), u4, u5, u6, u7]) dX12_asked_18 (ltQ rfl) rfl ?_
  refine w_aload_n dX12_asked_19 rfl ?_
  obtain ⟨g1, k⟩ := k
  refine w_getR dX12_asked_20 f_12_144 t_12_49 g1 ?_
  refine w_iconst dX12_asked_23 i1_5 ?_
  obtain ⟨g2, k⟩ := k
  obtain ⟨g3, k⟩ := k
  refine w_iaload dX12_asked_24 g2 g3 ?_
  refine w_iload_n dX12_asked_25 rfl ?_
  refine w_ic_gt (pc' := 54) dX12_asked_26 rfl rfl ⟨fun c => ?_, fun c => ?_⟩
  · replace k := k.1 c
    exact k
  · replace k := k.2 c
    refine w_aload_n dX12_asked_29 rfl ?_
    refine w_getR dX12_asked_30 f_12_144 t_12_49 g1 ?_
    refine w_iconst dX12_asked_33 i1_5 ?_
    refine w_iaload dX12_asked_34 g2 g3 ?_
    refine w_iload_n dX12_asked_35 rfl ?_
    refine w_ic_ne (pc' := 58) dX12_asked_36 rfl rfl ⟨fun c => ?_, fun c => ?_⟩
    · replace k := k.1 c
      exact k
    · replace k := k.2 c
      refine w_aload_n dX12_asked_39 rfl ?_
      refine w_getR dX12_asked_40 f_12_144 t_12_49 g1 ?_
      refine w_iconst dX12_asked_43 i1_4 ?_
      obtain ⟨g4, k⟩ := k
      refine w_iaload dX12_asked_44 g2 g4 ?_
      refine w_aload_n dX12_asked_45 rfl ?_
      refine w_getR dX12_asked_46 f_12_42 t_12_12 g1 ?_
      refine w_iload_n dX12_asked_49 rfl ?_
      obtain ⟨g5, k⟩ := k
      obtain ⟨g6, k⟩ := k
      refine w_iaload dX12_asked_50 g5 g6 ?_
      refine w_ic_lt (pc' := 58) dX12_asked_51 rfl rfl ⟨fun c => ?_, fun c => ?_⟩
      · replace k := k.1 c
        exact k
      · replace k := k.2 c
        exact k
theorem bX12_asked_54 {d : Nat} {h : HP} {Q : Out → HP → Prop} {v0 : Nat} {v1 : Int32} {v2 : Int32} {v3 : Int32} {u4 : Option Value} {u5 : Option Value} {u6 : Option Value} {u7 : Option Value} (k : WP d mX12_asked 59 [some (.ref v0), some (.int v1), some (.int v2), some (.int v3), u4, u5, u6, u7] [.int (1 : Int32)] h Q) : WP d mX12_asked 54 [some (.ref v0), some (.int v1), some (.int v2), some (.int v3), u4, u5, u6, u7] [] h Q := by
  refine w_iconst dX12_asked_54 i1_1 ?_
  refine w_goto (pc' := 59) dX12_asked_55 rfl rfl ?_
  exact k
theorem bX12_asked_58 {d : Nat} {h : HP} {Q : Out → HP → Prop} {v0 : Nat} {v1 : Int32} {v2 : Int32} {v3 : Int32} {u4 : Option Value} {u5 : Option Value} {u6 : Option Value} {u7 : Option Value} (k : WP d mX12_asked 59 [some (.ref v0), some (.int v1), some (.int v2), some (.int v3), u4, u5, u6, u7] [.int (0 : Int32)] h Q) : WP d mX12_asked 58 [some (.ref v0), some (.int v1), some (.int v2), some (.int v3), u4, u5, u6, u7] [] h Q := by
  refine w_iconst dX12_asked_58 i1_0 ?_
  exact k
theorem bX12_asked_59 {d : Nat} {h : HP} {Q : Out → HP → Prop} {v0 : Nat} {v1 : Int32} {v2 : Int32} {v3 : Int32} {u4 : Option Value} {u5 : Option Value} {u6 : Option Value} {u7 : Option Value} {s0 : Int32} (k : (hK h v0 = 12) ∧ ((hK h (hR h 1210 v0) = 20) ∧ ((inA h (hR h 1210 v0) v1 = true) ∧ ((((hAI h (hR h 1210 v0) (v1).toNatClampNeg) = (-1 : Int32)) → WP (d + 1) mX12_asked 81 [some (.ref v0), some (.int v1), some (.int v2), some (.int v3), some (.int s0), u5, u6, u7] [] h Q) ∧ ((¬ ((hAI h (hR h 1210 v0) (v1).toNatClampNeg) = (-1 : Int32))) → ((¬ (hAI h (hR h 1210 v0) (v1).toNatClampNeg) = v2) → (hK h (hR h 1249 v0) = 20) ∧ ((inA h (hR h 1249 v0) (3 : Int32) = true) ∧ ((hK h (hR h 1209 v0) = 20) ∧ ((inA h (hR h 1209 v0) v1 = true) ∧ (((¬ (hAI h (hR h 1249 v0) ((3 : Int32)).toNatClampNeg) = (hAI h (hR h 1209 v0) (v1).toNatClampNeg)) → (((0 : Int32) = 0) → (hK (sAI h (hR h 1210 v0) (v1).toNatClampNeg (hAI h (hR h 1210 v0) (v1).toNatClampNeg)) v0 = 12) ∧ ((hK (sAI h (hR h 1210 v0) (v1).toNatClampNeg (hAI h (hR h 1210 v0) (v1).toNatClampNeg)) (hR (sAI h (hR h 1210 v0) (v1).toNatClampNeg (hAI h (hR h 1210 v0) (v1).toNatClampNeg)) 1209 v0) = 20) ∧ ((inA (sAI h (hR h 1210 v0) (v1).toNatClampNeg (hAI h (hR h 1210 v0) (v1).toNatClampNeg)) (hR (sAI h (hR h 1210 v0) (v1).toNatClampNeg (hAI h (hR h 1210 v0) (v1).toNatClampNeg)) 1209 v0) v1 = true) ∧ ((1 < v0) ∧ (WP d mX12_sends 0 [some (.ref v0), some (.int (1 : Int32)), some (.int v1), some (.int v2), some (.int (hAI (sAI h (hR h 1210 v0) (v1).toNatClampNeg (hAI h (hR h 1210 v0) (v1).toNatClampNeg)) (hR (sAI h (hR h 1210 v0) (v1).toNatClampNeg (hAI h (hR h 1210 v0) (v1).toNatClampNeg)) 1209 v0) (v1).toNatClampNeg)), none, none] [] (sAI h (hR h 1210 v0) (v1).toNatClampNeg (hAI h (hR h 1210 v0) (v1).toNatClampNeg)) (KK d mX12_asked mX12_sends 169 [some (.ref v0), some (.int v1), some (.int v2), some (.int v3), some (.int s0), some (.int (0 : Int32)), some (.int (0 : Int32)), u7] [] Q)))))) ∧ ((¬ ((0 : Int32) = 0)) → (hK (sAI h (hR h 1210 v0) (v1).toNatClampNeg v2) v0 = 12) ∧ ((hK (sAI h (hR h 1210 v0) (v1).toNatClampNeg v2) (hR (sAI h (hR h 1210 v0) (v1).toNatClampNeg v2) 1209 v0) = 20) ∧ ((inA (sAI h (hR h 1210 v0) (v1).toNatClampNeg v2) (hR (sAI h (hR h 1210 v0) (v1).toNatClampNeg v2) 1209 v0) v1 = true) ∧ ((1 < v0) ∧ (WP d mX12_sends 0 [some (.ref v0), some (.int (1 : Int32)), some (.int v1), some (.int v2), some (.int (hAI (sAI h (hR h 1210 v0) (v1).toNatClampNeg v2) (hR (sAI h (hR h 1210 v0) (v1).toNatClampNeg v2) 1209 v0) (v1).toNatClampNeg)), none, none] [] (sAI h (hR h 1210 v0) (v1).toNatClampNeg v2) (KK d mX12_asked mX12_sends 169 [some (.ref v0), some (.int v1), some (.int v2), some (.int v3), some (.int s0), some (.int (0 : Int32)), some (.int (0 : Int32)), u7] [] Q))))))) ∧ ((¬ (¬ (hAI h (hR h 1249 v0) ((3 : Int32)).toNatClampNeg) = (hAI h (hR h 1209 v0) (v1).toNatClampNeg))) → (((0 : Int32) = 0) → (((0 : Int32) = 0) → (hK (sAI h (hR h 1210 v0) (v1).toNatClampNeg (hAI h (hR h 1210 v0) (v1).toNatClampNeg)) v0 = 12) ∧ ((hK (sAI h (hR h 1210 v0) (v1).toNatClampNeg (hAI h (hR h 1210 v0) (v1).toNatClampNeg)) (hR (sAI h (hR h 1210 v0) (v1).toNatClampNeg (hAI h (hR h 1210 v0) (v1).toNatClampNeg)) 1209 v0) = 20) ∧ ((inA (sAI h (hR h 1210 v0) (v1).toNatClampNeg (hAI h (hR h 1210 v0) (v1).toNatClampNeg)) (hR (sAI h (hR h 1210 v0) (v1).toNatClampNeg (hAI h (hR h 1210 v0) (v1).toNatClampNeg)) 1209 v0) v1 = true) ∧ ((1 < v0) ∧ (WP d mX12_sends 0 [some (.ref v0), some (.int (1 : Int32)), some (.int v1), some (.int v2), some (.int (hAI (sAI h (hR h 1210 v0) (v1).toNatClampNeg (hAI h (hR h 1210 v0) (v1).toNatClampNeg)) (hR (sAI h (hR h 1210 v0) (v1).toNatClampNeg (hAI h (hR h 1210 v0) (v1).toNatClampNeg)) 1209 v0) (v1).toNatClampNeg)), none, none] [] (sAI h (hR h 1210 v0) (v1).toNatClampNeg (hAI h (hR h 1210 v0) (v1).toNatClampNeg)) (KK d mX12_asked mX12_sends 169 [some (.ref v0), some (.int v1), some (.int v2), some (.int v3), some (.int s0), some (.int (0 : Int32)), some (.int (0 : Int32)), u7] [] Q)))))) ∧ ((¬ ((0 : Int32) = 0)) → (hK (sAI h (hR h 1210 v0) (v1).toNatClampNeg v2) v0 = 12) ∧ ((hK (sAI h (hR h 1210 v0) (v1).toNatClampNeg v2) (hR (sAI h (hR h 1210 v0) (v1).toNatClampNeg v2) 1209 v0) = 20) ∧ ((inA (sAI h (hR h 1210 v0) (v1).toNatClampNeg v2) (hR (sAI h (hR h 1210 v0) (v1).toNatClampNeg v2) 1209 v0) v1 = true) ∧ ((1 < v0) ∧ (WP d mX12_sends 0 [some (.ref v0), some (.int (1 : Int32)), some (.int v1), some (.int v2), some (.int (hAI (sAI h (hR h 1210 v0) (v1).toNatClampNeg v2) (hR (sAI h (hR h 1210 v0) (v1).toNatClampNeg v2) 1209 v0) (v1).toNatClampNeg)), none, none] [] (sAI h (hR h 1210 v0) (v1).toNatClampNeg v2) (KK d mX12_asked mX12_sends 169 [some (.ref v0), some (.int v1), some (.int v2), some (.int v3), some (.int s0), some (.int (0 : Int32)), some (.int (0 : Int32)), u7] [] Q))))))) ∧ ((¬ ((0 : Int32) = 0)) → ((s0 = 0) → (((0 : Int32) = 0) → (hK (sAI h (hR h 1210 v0) (v1).toNatClampNeg (hAI h (hR h 1210 v0) (v1).toNatClampNeg)) v0 = 12) ∧ ((hK (sAI h (hR h 1210 v0) (v1).toNatClampNeg (hAI h (hR h 1210 v0) (v1).toNatClampNeg)) (hR (sAI h (hR h 1210 v0) (v1).toNatClampNeg (hAI h (hR h 1210 v0) (v1).toNatClampNeg)) 1209 v0) = 20) ∧ ((inA (sAI h (hR h 1210 v0) (v1).toNatClampNeg (hAI h (hR h 1210 v0) (v1).toNatClampNeg)) (hR (sAI h (hR h 1210 v0) (v1).toNatClampNeg (hAI h (hR h 1210 v0) (v1).toNatClampNeg)) 1209 v0) v1 = true) ∧ ((1 < v0) ∧ (WP d mX12_sends 0 [some (.ref v0), some (.int (1 : Int32)), some (.int v1), some (.int v2), some (.int (hAI (sAI h (hR h 1210 v0) (v1).toNatClampNeg (hAI h (hR h 1210 v0) (v1).toNatClampNeg)) (hR (sAI h (hR h 1210 v0) (v1).toNatClampNeg (hAI h (hR h 1210 v0) (v1).toNatClampNeg)) 1209 v0) (v1).toNatClampNeg)), none, none] [] (sAI h (hR h 1210 v0) (v1).toNatClampNeg (hAI h (hR h 1210 v0) (v1).toNatClampNeg)) (KK d mX12_asked mX12_sends 169 [some (.ref v0), some (.int v1), some (.int v2), some (.int v3), some (.int s0), some (.int (0 : Int32)), some (.int (0 : Int32)), u7] [] Q)))))) ∧ ((¬ ((0 : Int32) = 0)) → (hK (sAI h (hR h 1210 v0) (v1).toNatClampNeg v2) v0 = 12) ∧ ((hK (sAI h (hR h 1210 v0) (v1).toNatClampNeg v2) (hR (sAI h (hR h 1210 v0) (v1).toNatClampNeg v2) 1209 v0) = 20) ∧ ((inA (sAI h (hR h 1210 v0) (v1).toNatClampNeg v2) (hR (sAI h (hR h 1210 v0) (v1).toNatClampNeg v2) 1209 v0) v1 = true) ∧ ((1 < v0) ∧ (WP d mX12_sends 0 [some (.ref v0), some (.int (1 : Int32)), some (.int v1), some (.int v2), some (.int (hAI (sAI h (hR h 1210 v0) (v1).toNatClampNeg v2) (hR (sAI h (hR h 1210 v0) (v1).toNatClampNeg v2) 1209 v0) (v1).toNatClampNeg)), none, none] [] (sAI h (hR h 1210 v0) (v1).toNatClampNeg v2) (KK d mX12_asked mX12_sends 169 [some (.ref v0), some (.int v1), some (.int v2), some (.int v3), some (.int s0), some (.int (0 : Int32)), some (.int (0 : Int32)), u7] [] Q))))))) ∧ ((¬ (s0 = 0)) → (1 < v0) ∧ (WP d mX12_promises 0 [some (.ref v0), some (.int v1)] [] h (KK d mX12_asked mX12_promises 115 [some (.ref v0), some (.int v1), some (.int v2), some (.int v3), some (.int s0), some (.int (0 : Int32)), u6, u7] [] Q)))))))))) ∧ ((¬ (¬ (hAI h (hR h 1210 v0) (v1).toNatClampNeg) = v2)) → WP (d + 1) mX12_asked 81 [some (.ref v0), some (.int v1), some (.int v2), some (.int v3), some (.int s0), u5, u6, u7] [] h Q)))))) : WP (d + 1) mX12_asked 59 [some (.ref v0), some (.int v1), some (.int v2), some (.int v3), u4, u5, u6, u7] [.int s0] h Q := by
  refine w_istore (lo' := [some (.ref v0), some (.int v1), some (.int v2), some (.int v3), some (.int s0), u5, u6, u7]) dX12_asked_59 (ltQ rfl) rfl ?_
  refine w_aload_n dX12_asked_61 rfl ?_
  obtain ⟨g1, k⟩ := k
  refine w_getR dX12_asked_62 f_12_36 t_12_10 g1 ?_
  refine w_iload_n dX12_asked_65 rfl ?_
  obtain ⟨g2, k⟩ := k
  obtain ⟨g3, k⟩ := k
  refine w_iaload dX12_asked_66 g2 g3 ?_
  refine w_iconst dX12_asked_67 i1_m1 ?_
  refine w_ic_eq (pc' := 81) dX12_asked_68 rfl rfl ⟨fun c => ?_, fun c => ?_⟩
  · replace k := k.1 c
    exact k
  · replace k := k.2 c
    refine w_aload_n dX12_asked_71 rfl ?_
    refine w_getR dX12_asked_72 f_12_36 t_12_10 g1 ?_
    refine w_iload_n dX12_asked_75 rfl ?_
    refine w_iaload dX12_asked_76 g2 g3 ?_
    refine w_iload_n dX12_asked_77 rfl ?_
    refine w_ic_ne (pc' := 85) dX12_asked_78 rfl rfl ⟨fun c => ?_, fun c => ?_⟩
    · replace k := k.1 c
      refine w_iconst dX12_asked_85 i1_0 ?_
      refine w_istore (lo' := [some (.ref v0), some (.int v1), some (.int v2), some (.int v3), some (.int s0), some (.int (0 : Int32)), u6, u7]) dX12_asked_86 (ltQ rfl) rfl ?_
      refine w_aload_n dX12_asked_88 rfl ?_
      refine w_getR dX12_asked_89 f_12_144 t_12_49 g1 ?_
      refine w_iconst dX12_asked_92 i1_3 ?_
      obtain ⟨g4, k⟩ := k
      obtain ⟨g5, k⟩ := k
      refine w_iaload dX12_asked_93 g4 g5 ?_
      refine w_aload_n dX12_asked_94 rfl ?_
      refine w_getR dX12_asked_95 f_12_32 t_12_9 g1 ?_
      refine w_iload_n dX12_asked_98 rfl ?_
      obtain ⟨g6, k⟩ := k
      obtain ⟨g7, k⟩ := k
      refine w_iaload dX12_asked_99 g6 g7 ?_
      refine w_ic_ne (pc' := 135) dX12_asked_100 rfl rfl ⟨fun c => ?_, fun c => ?_⟩
      · replace k := k.1 c
        refine w_iconst dX12_asked_135 i1_0 ?_
        refine w_istore (lo' := [some (.ref v0), some (.int v1), some (.int v2), some (.int v3), some (.int s0), some (.int (0 : Int32)), some (.int (0 : Int32)), u7]) dX12_asked_136 (ltQ rfl) rfl ?_
        refine w_aload_n dX12_asked_138 rfl ?_
        refine w_getR dX12_asked_139 f_12_36 t_12_10 g1 ?_
        refine w_iload_n dX12_asked_142 rfl ?_
        refine w_iload dX12_asked_143 rfl ?_
        refine w_if_eq (pc' := 152) dX12_asked_145 rfl rfl ⟨fun c => ?_, fun c => ?_⟩
        · replace k := k.1 c
          refine w_aload_n dX12_asked_152 rfl ?_
          refine w_getR dX12_asked_153 f_12_36 t_12_10 g1 ?_
          refine w_iload_n dX12_asked_156 rfl ?_
          refine w_iaload dX12_asked_157 g2 g3 ?_
          refine w_iastore dX12_asked_158 g2 g3 ?_
          refine w_aload_n dX12_asked_159 rfl ?_
          refine w_iconst dX12_asked_160 i1_1 ?_
          refine w_iload_n dX12_asked_161 rfl ?_
          refine w_iload_n dX12_asked_162 rfl ?_
          refine w_aload_n dX12_asked_163 rfl ?_
          obtain ⟨g8, k⟩ := k
          refine w_getR dX12_asked_164 f_12_32 t_12_9 g8 ?_
          refine w_iload_n dX12_asked_167 rfl ?_
          obtain ⟨g9, k⟩ := k
          obtain ⟨g10, k⟩ := k
          refine w_iaload dX12_asked_168 g9 g10 ?_
          obtain ⟨g11, k⟩ := k
          exact w_virt (as1 := [.int (hAI (sAI h (hR h 1210 v0) (v1).toNatClampNeg (hAI h (hR h 1210 v0) (v1).toNatClampNeg)) (hR (sAI h (hR h 1210 v0) (v1).toNatClampNeg (hAI h (hR h 1210 v0) (v1).toNatClampNeg)) 1209 v0) (v1).toNatClampNeg), .int v2, .int v1, .int (1 : Int32), .ref v0]) (as2 := [.ref v0, .int (1 : Int32), .int v1, .int v2, .int (hAI (sAI h (hR h 1210 v0) (v1).toNatClampNeg (hAI h (hR h 1210 v0) (v1).toNatClampNeg)) (hR (sAI h (hR h 1210 v0) (v1).toNatClampNeg (hAI h (hR h 1210 v0) (v1).toNatClampNeg)) 1209 v0) (v1).toNatClampNeg)]) (rest := []) (lo2 := [some (.ref v0), some (.int (1 : Int32)), some (.int v1), some (.int v2), some (.int (hAI (sAI h (hR h 1210 v0) (v1).toNatClampNeg (hAI h (hR h 1210 v0) (v1).toNatClampNeg)) (hR (sAI h (hR h 1210 v0) (v1).toNatClampNeg (hAI h (hR h 1210 v0) (v1).toNatClampNeg)) 1209 v0) (v1).toNatClampNeg)), none, none]) dX12_asked_169 c_12_229 rfl rfl rfl (Nat.le_of_ble_eq_true rfl) (Nat.le_of_ble_eq_true rfl) rfl (Nat.le_of_ble_eq_true rfl) rfl rfl g11 g8 k
        · replace k := k.2 c
          refine w_iload_n dX12_asked_148 rfl ?_
          refine w_goto (pc' := 158) dX12_asked_149 rfl rfl ?_
          refine w_iastore dX12_asked_158 g2 g3 ?_
          refine w_aload_n dX12_asked_159 rfl ?_
          refine w_iconst dX12_asked_160 i1_1 ?_
          refine w_iload_n dX12_asked_161 rfl ?_
          refine w_iload_n dX12_asked_162 rfl ?_
          refine w_aload_n dX12_asked_163 rfl ?_
          obtain ⟨g12, k⟩ := k
          refine w_getR dX12_asked_164 f_12_32 t_12_9 g12 ?_
          refine w_iload_n dX12_asked_167 rfl ?_
          obtain ⟨g13, k⟩ := k
          obtain ⟨g14, k⟩ := k
          refine w_iaload dX12_asked_168 g13 g14 ?_
          obtain ⟨g15, k⟩ := k
          exact w_virt (as1 := [.int (hAI (sAI h (hR h 1210 v0) (v1).toNatClampNeg v2) (hR (sAI h (hR h 1210 v0) (v1).toNatClampNeg v2) 1209 v0) (v1).toNatClampNeg), .int v2, .int v1, .int (1 : Int32), .ref v0]) (as2 := [.ref v0, .int (1 : Int32), .int v1, .int v2, .int (hAI (sAI h (hR h 1210 v0) (v1).toNatClampNeg v2) (hR (sAI h (hR h 1210 v0) (v1).toNatClampNeg v2) 1209 v0) (v1).toNatClampNeg)]) (rest := []) (lo2 := [some (.ref v0), some (.int (1 : Int32)), some (.int v1), some (.int v2), some (.int (hAI (sAI h (hR h 1210 v0) (v1).toNatClampNeg v2) (hR (sAI h (hR h 1210 v0) (v1).toNatClampNeg v2) 1209 v0) (v1).toNatClampNeg)), none, none]) dX12_asked_169 c_12_229 rfl rfl rfl (Nat.le_of_ble_eq_true rfl) (Nat.le_of_ble_eq_true rfl) rfl (Nat.le_of_ble_eq_true rfl) rfl rfl g15 g12 k
      · replace k := k.2 c
        refine w_iload dX12_asked_103 rfl ?_
        refine w_if_eq (pc' := 135) dX12_asked_105 rfl rfl ⟨fun c => ?_, fun c => ?_⟩
        · replace k := k.1 c
          refine w_iconst dX12_asked_135 i1_0 ?_
          refine w_istore (lo' := [some (.ref v0), some (.int v1), some (.int v2), some (.int v3), some (.int s0), some (.int (0 : Int32)), some (.int (0 : Int32)), u7]) dX12_asked_136 (ltQ rfl) rfl ?_
          refine w_aload_n dX12_asked_138 rfl ?_
          refine w_getR dX12_asked_139 f_12_36 t_12_10 g1 ?_
          refine w_iload_n dX12_asked_142 rfl ?_
          refine w_iload dX12_asked_143 rfl ?_
          refine w_if_eq (pc' := 152) dX12_asked_145 rfl rfl ⟨fun c => ?_, fun c => ?_⟩
          · replace k := k.1 c
            refine w_aload_n dX12_asked_152 rfl ?_
            refine w_getR dX12_asked_153 f_12_36 t_12_10 g1 ?_
            refine w_iload_n dX12_asked_156 rfl ?_
            refine w_iaload dX12_asked_157 g2 g3 ?_
            refine w_iastore dX12_asked_158 g2 g3 ?_
            refine w_aload_n dX12_asked_159 rfl ?_
            refine w_iconst dX12_asked_160 i1_1 ?_
            refine w_iload_n dX12_asked_161 rfl ?_
            refine w_iload_n dX12_asked_162 rfl ?_
            refine w_aload_n dX12_asked_163 rfl ?_
            obtain ⟨g16, k⟩ := k
            refine w_getR dX12_asked_164 f_12_32 t_12_9 g16 ?_
            refine w_iload_n dX12_asked_167 rfl ?_
            obtain ⟨g17, k⟩ := k
            obtain ⟨g18, k⟩ := k
            refine w_iaload dX12_asked_168 g17 g18 ?_
            obtain ⟨g19, k⟩ := k
            exact w_virt (as1 := [.int (hAI (sAI h (hR h 1210 v0) (v1).toNatClampNeg (hAI h (hR h 1210 v0) (v1).toNatClampNeg)) (hR (sAI h (hR h 1210 v0) (v1).toNatClampNeg (hAI h (hR h 1210 v0) (v1).toNatClampNeg)) 1209 v0) (v1).toNatClampNeg), .int v2, .int v1, .int (1 : Int32), .ref v0]) (as2 := [.ref v0, .int (1 : Int32), .int v1, .int v2, .int (hAI (sAI h (hR h 1210 v0) (v1).toNatClampNeg (hAI h (hR h 1210 v0) (v1).toNatClampNeg)) (hR (sAI h (hR h 1210 v0) (v1).toNatClampNeg (hAI h (hR h 1210 v0) (v1).toNatClampNeg)) 1209 v0) (v1).toNatClampNeg)]) (rest := []) (lo2 := [some (.ref v0), some (.int (1 : Int32)), some (.int v1), some (.int v2), some (.int (hAI (sAI h (hR h 1210 v0) (v1).toNatClampNeg (hAI h (hR h 1210 v0) (v1).toNatClampNeg)) (hR (sAI h (hR h 1210 v0) (v1).toNatClampNeg (hAI h (hR h 1210 v0) (v1).toNatClampNeg)) 1209 v0) (v1).toNatClampNeg)), none, none]) dX12_asked_169 c_12_229 rfl rfl rfl (Nat.le_of_ble_eq_true rfl) (Nat.le_of_ble_eq_true rfl) rfl (Nat.le_of_ble_eq_true rfl) rfl rfl g19 g16 k
          · replace k := k.2 c
            refine w_iload_n dX12_asked_148 rfl ?_
            refine w_goto (pc' := 158) dX12_asked_149 rfl rfl ?_
            refine w_iastore dX12_asked_158 g2 g3 ?_
            refine w_aload_n dX12_asked_159 rfl ?_
            refine w_iconst dX12_asked_160 i1_1 ?_
            refine w_iload_n dX12_asked_161 rfl ?_
            refine w_iload_n dX12_asked_162 rfl ?_
            refine w_aload_n dX12_asked_163 rfl ?_
            obtain ⟨g20, k⟩ := k
            refine w_getR dX12_asked_164 f_12_32 t_12_9 g20 ?_
            refine w_iload_n dX12_asked_167 rfl ?_
            obtain ⟨g21, k⟩ := k
            obtain ⟨g22, k⟩ := k
            refine w_iaload dX12_asked_168 g21 g22 ?_
            obtain ⟨g23, k⟩ := k
            exact w_virt (as1 := [.int (hAI (sAI h (hR h 1210 v0) (v1).toNatClampNeg v2) (hR (sAI h (hR h 1210 v0) (v1).toNatClampNeg v2) 1209 v0) (v1).toNatClampNeg), .int v2, .int v1, .int (1 : Int32), .ref v0]) (as2 := [.ref v0, .int (1 : Int32), .int v1, .int v2, .int (hAI (sAI h (hR h 1210 v0) (v1).toNatClampNeg v2) (hR (sAI h (hR h 1210 v0) (v1).toNatClampNeg v2) 1209 v0) (v1).toNatClampNeg)]) (rest := []) (lo2 := [some (.ref v0), some (.int (1 : Int32)), some (.int v1), some (.int v2), some (.int (hAI (sAI h (hR h 1210 v0) (v1).toNatClampNeg v2) (hR (sAI h (hR h 1210 v0) (v1).toNatClampNeg v2) 1209 v0) (v1).toNatClampNeg)), none, none]) dX12_asked_169 c_12_229 rfl rfl rfl (Nat.le_of_ble_eq_true rfl) (Nat.le_of_ble_eq_true rfl) rfl (Nat.le_of_ble_eq_true rfl) rfl rfl g23 g20 k
        · replace k := k.2 c
          refine w_iload dX12_asked_108 rfl ?_
          refine w_if_eq (pc' := 135) dX12_asked_110 rfl rfl ⟨fun c => ?_, fun c => ?_⟩
          · replace k := k.1 c
            refine w_iconst dX12_asked_135 i1_0 ?_
            refine w_istore (lo' := [some (.ref v0), some (.int v1), some (.int v2), some (.int v3), some (.int s0), some (.int (0 : Int32)), some (.int (0 : Int32)), u7]) dX12_asked_136 (ltQ rfl) rfl ?_
            refine w_aload_n dX12_asked_138 rfl ?_
            refine w_getR dX12_asked_139 f_12_36 t_12_10 g1 ?_
            refine w_iload_n dX12_asked_142 rfl ?_
            refine w_iload dX12_asked_143 rfl ?_
            refine w_if_eq (pc' := 152) dX12_asked_145 rfl rfl ⟨fun c => ?_, fun c => ?_⟩
            · replace k := k.1 c
              refine w_aload_n dX12_asked_152 rfl ?_
              refine w_getR dX12_asked_153 f_12_36 t_12_10 g1 ?_
              refine w_iload_n dX12_asked_156 rfl ?_
              refine w_iaload dX12_asked_157 g2 g3 ?_
              refine w_iastore dX12_asked_158 g2 g3 ?_
              refine w_aload_n dX12_asked_159 rfl ?_
              refine w_iconst dX12_asked_160 i1_1 ?_
              refine w_iload_n dX12_asked_161 rfl ?_
              refine w_iload_n dX12_asked_162 rfl ?_
              refine w_aload_n dX12_asked_163 rfl ?_
              obtain ⟨g24, k⟩ := k
              refine w_getR dX12_asked_164 f_12_32 t_12_9 g24 ?_
              refine w_iload_n dX12_asked_167 rfl ?_
              obtain ⟨g25, k⟩ := k
              obtain ⟨g26, k⟩ := k
              refine w_iaload dX12_asked_168 g25 g26 ?_
              obtain ⟨g27, k⟩ := k
              exact w_virt (as1 := [.int (hAI (sAI h (hR h 1210 v0) (v1).toNatClampNeg (hAI h (hR h 1210 v0) (v1).toNatClampNeg)) (hR (sAI h (hR h 1210 v0) (v1).toNatClampNeg (hAI h (hR h 1210 v0) (v1).toNatClampNeg)) 1209 v0) (v1).toNatClampNeg), .int v2, .int v1, .int (1 : Int32), .ref v0]) (as2 := [.ref v0, .int (1 : Int32), .int v1, .int v2, .int (hAI (sAI h (hR h 1210 v0) (v1).toNatClampNeg (hAI h (hR h 1210 v0) (v1).toNatClampNeg)) (hR (sAI h (hR h 1210 v0) (v1).toNatClampNeg (hAI h (hR h 1210 v0) (v1).toNatClampNeg)) 1209 v0) (v1).toNatClampNeg)]) (rest := []) (lo2 := [some (.ref v0), some (.int (1 : Int32)), some (.int v1), some (.int v2), some (.int (hAI (sAI h (hR h 1210 v0) (v1).toNatClampNeg (hAI h (hR h 1210 v0) (v1).toNatClampNeg)) (hR (sAI h (hR h 1210 v0) (v1).toNatClampNeg (hAI h (hR h 1210 v0) (v1).toNatClampNeg)) 1209 v0) (v1).toNatClampNeg)), none, none]) dX12_asked_169 c_12_229 rfl rfl rfl (Nat.le_of_ble_eq_true rfl) (Nat.le_of_ble_eq_true rfl) rfl (Nat.le_of_ble_eq_true rfl) rfl rfl g27 g24 k
            · replace k := k.2 c
              refine w_iload_n dX12_asked_148 rfl ?_
              refine w_goto (pc' := 158) dX12_asked_149 rfl rfl ?_
              refine w_iastore dX12_asked_158 g2 g3 ?_
              refine w_aload_n dX12_asked_159 rfl ?_
              refine w_iconst dX12_asked_160 i1_1 ?_
              refine w_iload_n dX12_asked_161 rfl ?_
              refine w_iload_n dX12_asked_162 rfl ?_
              refine w_aload_n dX12_asked_163 rfl ?_
              obtain ⟨g28, k⟩ := k
              refine w_getR dX12_asked_164 f_12_32 t_12_9 g28 ?_
              refine w_iload_n dX12_asked_167 rfl ?_
              obtain ⟨g29, k⟩ := k
              obtain ⟨g30, k⟩ := k
              refine w_iaload dX12_asked_168 g29 g30 ?_
              obtain ⟨g31, k⟩ := k
              exact w_virt (as1 := [.int (hAI (sAI h (hR h 1210 v0) (v1).toNatClampNeg v2) (hR (sAI h (hR h 1210 v0) (v1).toNatClampNeg v2) 1209 v0) (v1).toNatClampNeg), .int v2, .int v1, .int (1 : Int32), .ref v0]) (as2 := [.ref v0, .int (1 : Int32), .int v1, .int v2, .int (hAI (sAI h (hR h 1210 v0) (v1).toNatClampNeg v2) (hR (sAI h (hR h 1210 v0) (v1).toNatClampNeg v2) 1209 v0) (v1).toNatClampNeg)]) (rest := []) (lo2 := [some (.ref v0), some (.int (1 : Int32)), some (.int v1), some (.int v2), some (.int (hAI (sAI h (hR h 1210 v0) (v1).toNatClampNeg v2) (hR (sAI h (hR h 1210 v0) (v1).toNatClampNeg v2) 1209 v0) (v1).toNatClampNeg)), none, none]) dX12_asked_169 c_12_229 rfl rfl rfl (Nat.le_of_ble_eq_true rfl) (Nat.le_of_ble_eq_true rfl) rfl (Nat.le_of_ble_eq_true rfl) rfl rfl g31 g28 k
          · replace k := k.2 c
            refine w_aload_n dX12_asked_113 rfl ?_
            refine w_iload_n dX12_asked_114 rfl ?_
            obtain ⟨g32, k⟩ := k
            exact w_virt (as1 := [.int v1, .ref v0]) (as2 := [.ref v0, .int v1]) (rest := []) (lo2 := [some (.ref v0), some (.int v1)]) dX12_asked_115 c_12_226 rfl rfl rfl (Nat.le_of_ble_eq_true rfl) (Nat.le_of_ble_eq_true rfl) rfl (Nat.le_of_ble_eq_true rfl) rfl rfl g32 g1 k
    · replace k := k.2 c
      exact k
theorem bX12_asked_81 {d : Nat} {h : HP} {Q : Out → HP → Prop} {v0 : Nat} {v1 : Int32} {v2 : Int32} {v3 : Int32} {v4 : Int32} {u5 : Option Value} {u6 : Option Value} {u7 : Option Value} (k : (hK h v0 = 12) ∧ ((hK h (hR h 1249 v0) = 20) ∧ ((inA h (hR h 1249 v0) (3 : Int32) = true) ∧ ((hK h (hR h 1209 v0) = 20) ∧ ((inA h (hR h 1209 v0) v1 = true) ∧ (((¬ (hAI h (hR h 1249 v0) ((3 : Int32)).toNatClampNeg) = (hAI h (hR h 1209 v0) (v1).toNatClampNeg)) → (((0 : Int32) = 0) → (hK h (hR h 1210 v0) = 20) ∧ ((inA h (hR h 1210 v0) v1 = true) ∧ ((hK (sAI h (hR h 1210 v0) (v1).toNatClampNeg (hAI h (hR h 1210 v0) (v1).toNatClampNeg)) v0 = 12) ∧ ((hK (sAI h (hR h 1210 v0) (v1).toNatClampNeg (hAI h (hR h 1210 v0) (v1).toNatClampNeg)) (hR (sAI h (hR h 1210 v0) (v1).toNatClampNeg (hAI h (hR h 1210 v0) (v1).toNatClampNeg)) 1209 v0) = 20) ∧ ((inA (sAI h (hR h 1210 v0) (v1).toNatClampNeg (hAI h (hR h 1210 v0) (v1).toNatClampNeg)) (hR (sAI h (hR h 1210 v0) (v1).toNatClampNeg (hAI h (hR h 1210 v0) (v1).toNatClampNeg)) 1209 v0) v1 = true) ∧ ((1 < v0) ∧ (WP d mX12_sends 0 [some (.ref v0), some (.int (1 : Int32)), some (.int v1), some (.int v2), some (.int (hAI (sAI h (hR h 1210 v0) (v1).toNatClampNeg (hAI h (hR h 1210 v0) (v1).toNatClampNeg)) (hR (sAI h (hR h 1210 v0) (v1).toNatClampNeg (hAI h (hR h 1210 v0) (v1).toNatClampNeg)) 1209 v0) (v1).toNatClampNeg)), none, none] [] (sAI h (hR h 1210 v0) (v1).toNatClampNeg (hAI h (hR h 1210 v0) (v1).toNatClampNeg)) (KK d mX12_asked mX12_sends 169 [some (.ref v0), some (.int v1), some (.int v2), some (.int v3), some (.int v4), some (.int (1 : Int32)), some (.int (0 : Int32)), u7] [] Q)))))))) ∧ ((¬ ((0 : Int32) = 0)) → (hK h (hR h 1210 v0) = 20) ∧ ((inA h (hR h 1210 v0) v1 = true) ∧ ((hK (sAI h (hR h 1210 v0) (v1).toNatClampNeg v2) v0 = 12) ∧ ((hK (sAI h (hR h 1210 v0) (v1).toNatClampNeg v2) (hR (sAI h (hR h 1210 v0) (v1).toNatClampNeg v2) 1209 v0) = 20) ∧ ((inA (sAI h (hR h 1210 v0) (v1).toNatClampNeg v2) (hR (sAI h (hR h 1210 v0) (v1).toNatClampNeg v2) 1209 v0) v1 = true) ∧ ((1 < v0) ∧ (WP d mX12_sends 0 [some (.ref v0), some (.int (1 : Int32)), some (.int v1), some (.int v2), some (.int (hAI (sAI h (hR h 1210 v0) (v1).toNatClampNeg v2) (hR (sAI h (hR h 1210 v0) (v1).toNatClampNeg v2) 1209 v0) (v1).toNatClampNeg)), none, none] [] (sAI h (hR h 1210 v0) (v1).toNatClampNeg v2) (KK d mX12_asked mX12_sends 169 [some (.ref v0), some (.int v1), some (.int v2), some (.int v3), some (.int v4), some (.int (1 : Int32)), some (.int (0 : Int32)), u7] [] Q))))))))) ∧ ((¬ (¬ (hAI h (hR h 1249 v0) ((3 : Int32)).toNatClampNeg) = (hAI h (hR h 1209 v0) (v1).toNatClampNeg))) → (((1 : Int32) = 0) → (((0 : Int32) = 0) → (hK h (hR h 1210 v0) = 20) ∧ ((inA h (hR h 1210 v0) v1 = true) ∧ ((hK (sAI h (hR h 1210 v0) (v1).toNatClampNeg (hAI h (hR h 1210 v0) (v1).toNatClampNeg)) v0 = 12) ∧ ((hK (sAI h (hR h 1210 v0) (v1).toNatClampNeg (hAI h (hR h 1210 v0) (v1).toNatClampNeg)) (hR (sAI h (hR h 1210 v0) (v1).toNatClampNeg (hAI h (hR h 1210 v0) (v1).toNatClampNeg)) 1209 v0) = 20) ∧ ((inA (sAI h (hR h 1210 v0) (v1).toNatClampNeg (hAI h (hR h 1210 v0) (v1).toNatClampNeg)) (hR (sAI h (hR h 1210 v0) (v1).toNatClampNeg (hAI h (hR h 1210 v0) (v1).toNatClampNeg)) 1209 v0) v1 = true) ∧ ((1 < v0) ∧ (WP d mX12_sends 0 [some (.ref v0), some (.int (1 : Int32)), some (.int v1), some (.int v2), some (.int (hAI (sAI h (hR h 1210 v0) (v1).toNatClampNeg (hAI h (hR h 1210 v0) (v1).toNatClampNeg)) (hR (sAI h (hR h 1210 v0) (v1).toNatClampNeg (hAI h (hR h 1210 v0) (v1).toNatClampNeg)) 1209 v0) (v1).toNatClampNeg)), none, none] [] (sAI h (hR h 1210 v0) (v1).toNatClampNeg (hAI h (hR h 1210 v0) (v1).toNatClampNeg)) (KK d mX12_asked mX12_sends 169 [some (.ref v0), some (.int v1), some (.int v2), some (.int v3), some (.int v4), some (.int (1 : Int32)), some (.int (0 : Int32)), u7] [] Q)))))))) ∧ ((¬ ((0 : Int32) = 0)) → (hK h (hR h 1210 v0) = 20) ∧ ((inA h (hR h 1210 v0) v1 = true) ∧ ((hK (sAI h (hR h 1210 v0) (v1).toNatClampNeg v2) v0 = 12) ∧ ((hK (sAI h (hR h 1210 v0) (v1).toNatClampNeg v2) (hR (sAI h (hR h 1210 v0) (v1).toNatClampNeg v2) 1209 v0) = 20) ∧ ((inA (sAI h (hR h 1210 v0) (v1).toNatClampNeg v2) (hR (sAI h (hR h 1210 v0) (v1).toNatClampNeg v2) 1209 v0) v1 = true) ∧ ((1 < v0) ∧ (WP d mX12_sends 0 [some (.ref v0), some (.int (1 : Int32)), some (.int v1), some (.int v2), some (.int (hAI (sAI h (hR h 1210 v0) (v1).toNatClampNeg v2) (hR (sAI h (hR h 1210 v0) (v1).toNatClampNeg v2) 1209 v0) (v1).toNatClampNeg)), none, none] [] (sAI h (hR h 1210 v0) (v1).toNatClampNeg v2) (KK d mX12_asked mX12_sends 169 [some (.ref v0), some (.int v1), some (.int v2), some (.int v3), some (.int v4), some (.int (1 : Int32)), some (.int (0 : Int32)), u7] [] Q))))))))) ∧ ((¬ ((1 : Int32) = 0)) → ((v4 = 0) → (((0 : Int32) = 0) → (hK h (hR h 1210 v0) = 20) ∧ ((inA h (hR h 1210 v0) v1 = true) ∧ ((hK (sAI h (hR h 1210 v0) (v1).toNatClampNeg (hAI h (hR h 1210 v0) (v1).toNatClampNeg)) v0 = 12) ∧ ((hK (sAI h (hR h 1210 v0) (v1).toNatClampNeg (hAI h (hR h 1210 v0) (v1).toNatClampNeg)) (hR (sAI h (hR h 1210 v0) (v1).toNatClampNeg (hAI h (hR h 1210 v0) (v1).toNatClampNeg)) 1209 v0) = 20) ∧ ((inA (sAI h (hR h 1210 v0) (v1).toNatClampNeg (hAI h (hR h 1210 v0) (v1).toNatClampNeg)) (hR (sAI h (hR h 1210 v0) (v1).toNatClampNeg (hAI h (hR h 1210 v0) (v1).toNatClampNeg)) 1209 v0) v1 = true) ∧ ((1 < v0) ∧ (WP d mX12_sends 0 [some (.ref v0), some (.int (1 : Int32)), some (.int v1), some (.int v2), some (.int (hAI (sAI h (hR h 1210 v0) (v1).toNatClampNeg (hAI h (hR h 1210 v0) (v1).toNatClampNeg)) (hR (sAI h (hR h 1210 v0) (v1).toNatClampNeg (hAI h (hR h 1210 v0) (v1).toNatClampNeg)) 1209 v0) (v1).toNatClampNeg)), none, none] [] (sAI h (hR h 1210 v0) (v1).toNatClampNeg (hAI h (hR h 1210 v0) (v1).toNatClampNeg)) (KK d mX12_asked mX12_sends 169 [some (.ref v0), some (.int v1), some (.int v2), some (.int v3), some (.int v4), some (.int (1 : Int32)), some (.int (0 : Int32)), u7] [] Q)))))))) ∧ ((¬ ((0 : Int32) = 0)) → (hK h (hR h 1210 v0) = 20) ∧ ((inA h (hR h 1210 v0) v1 = true) ∧ ((hK (sAI h (hR h 1210 v0) (v1).toNatClampNeg v2) v0 = 12) ∧ ((hK (sAI h (hR h 1210 v0) (v1).toNatClampNeg v2) (hR (sAI h (hR h 1210 v0) (v1).toNatClampNeg v2) 1209 v0) = 20) ∧ ((inA (sAI h (hR h 1210 v0) (v1).toNatClampNeg v2) (hR (sAI h (hR h 1210 v0) (v1).toNatClampNeg v2) 1209 v0) v1 = true) ∧ ((1 < v0) ∧ (WP d mX12_sends 0 [some (.ref v0), some (.int (1 : Int32)), some (.int v1), some (.int v2), some (.int (hAI (sAI h (hR h 1210 v0) (v1).toNatClampNeg v2) (hR (sAI h (hR h 1210 v0) (v1).toNatClampNeg v2) 1209 v0) (v1).toNatClampNeg)), none, none] [] (sAI h (hR h 1210 v0) (v1).toNatClampNeg v2) (KK d mX12_asked mX12_sends 169 [some (.ref v0), some (.int v1), some (.int v2), some (.int v3), some (.int v4), some (.int (1 : Int32)), some (.int (0 : Int32)), u7] [] Q))))))))) ∧ ((¬ (v4 = 0)) → (1 < v0) ∧ (WP d mX12_promises 0 [some (.ref v0), some (.int v1)] [] h (KK d mX12_asked mX12_promises 115 [some (.ref v0), some (.int v1), some (.int v2), some (.int v3), some (.int v4), some (.int (1 : Int32)), u6, u7] [] Q))))))))))) : WP (d + 1) mX12_asked 81 [some (.ref v0), some (.int v1), some (.int v2), some (.int v3), some (.int v4), u5, u6, u7] [] h Q := by
  refine w_iconst dX12_asked_81 i1_1 ?_
  refine w_goto (pc' := 86) dX12_asked_82 rfl rfl ?_
  refine w_istore (lo' := [some (.ref v0), some (.int v1), some (.int v2), some (.int v3), some (.int v4), some (.int (1 : Int32)), u6, u7]) dX12_asked_86 (ltQ rfl) rfl ?_
  refine w_aload_n dX12_asked_88 rfl ?_
  obtain ⟨g1, k⟩ := k
  refine w_getR dX12_asked_89 f_12_144 t_12_49 g1 ?_
  refine w_iconst dX12_asked_92 i1_3 ?_
  obtain ⟨g2, k⟩ := k
  obtain ⟨g3, k⟩ := k
  refine w_iaload dX12_asked_93 g2 g3 ?_
  refine w_aload_n dX12_asked_94 rfl ?_
  refine w_getR dX12_asked_95 f_12_32 t_12_9 g1 ?_
  refine w_iload_n dX12_asked_98 rfl ?_
  obtain ⟨g4, k⟩ := k
  obtain ⟨g5, k⟩ := k
  refine w_iaload dX12_asked_99 g4 g5 ?_
  refine w_ic_ne (pc' := 135) dX12_asked_100 rfl rfl ⟨fun c => ?_, fun c => ?_⟩
  · replace k := k.1 c
    refine w_iconst dX12_asked_135 i1_0 ?_
    refine w_istore (lo' := [some (.ref v0), some (.int v1), some (.int v2), some (.int v3), some (.int v4), some (.int (1 : Int32)), some (.int (0 : Int32)), u7]) dX12_asked_136 (ltQ rfl) rfl ?_
    refine w_aload_n dX12_asked_138 rfl ?_
    refine w_getR dX12_asked_139 f_12_36 t_12_10 g1 ?_
    refine w_iload_n dX12_asked_142 rfl ?_
    refine w_iload dX12_asked_143 rfl ?_
    refine w_if_eq (pc' := 152) dX12_asked_145 rfl rfl ⟨fun c => ?_, fun c => ?_⟩
    · replace k := k.1 c
      refine w_aload_n dX12_asked_152 rfl ?_
      refine w_getR dX12_asked_153 f_12_36 t_12_10 g1 ?_
      refine w_iload_n dX12_asked_156 rfl ?_
      obtain ⟨g6, k⟩ := k
      obtain ⟨g7, k⟩ := k
      refine w_iaload dX12_asked_157 g6 g7 ?_
      refine w_iastore dX12_asked_158 g6 g7 ?_
      refine w_aload_n dX12_asked_159 rfl ?_
      refine w_iconst dX12_asked_160 i1_1 ?_
      refine w_iload_n dX12_asked_161 rfl ?_
      refine w_iload_n dX12_asked_162 rfl ?_
      refine w_aload_n dX12_asked_163 rfl ?_
      obtain ⟨g8, k⟩ := k
      refine w_getR dX12_asked_164 f_12_32 t_12_9 g8 ?_
      refine w_iload_n dX12_asked_167 rfl ?_
      obtain ⟨g9, k⟩ := k
      obtain ⟨g10, k⟩ := k
      refine w_iaload dX12_asked_168 g9 g10 ?_
      obtain ⟨g11, k⟩ := k
      exact w_virt (as1 := [.int (hAI (sAI h (hR h 1210 v0) (v1).toNatClampNeg (hAI h (hR h 1210 v0) (v1).toNatClampNeg)) (hR (sAI h (hR h 1210 v0) (v1).toNatClampNeg (hAI h (hR h 1210 v0) (v1).toNatClampNeg)) 1209 v0) (v1).toNatClampNeg), .int v2, .int v1, .int (1 : Int32), .ref v0]) (as2 := [.ref v0, .int (1 : Int32), .int v1, .int v2, .int (hAI (sAI h (hR h 1210 v0) (v1).toNatClampNeg (hAI h (hR h 1210 v0) (v1).toNatClampNeg)) (hR (sAI h (hR h 1210 v0) (v1).toNatClampNeg (hAI h (hR h 1210 v0) (v1).toNatClampNeg)) 1209 v0) (v1).toNatClampNeg)]) (rest := []) (lo2 := [some (.ref v0), some (.int (1 : Int32)), some (.int v1), some (.int v2), some (.int (hAI (sAI h (hR h 1210 v0) (v1).toNatClampNeg (hAI h (hR h 1210 v0) (v1).toNatClampNeg)) (hR (sAI h (hR h 1210 v0) (v1).toNatClampNeg (hAI h (hR h 1210 v0) (v1).toNatClampNeg)) 1209 v0) (v1).toNatClampNeg)), none, none]) dX12_asked_169 c_12_229 rfl rfl rfl (Nat.le_of_ble_eq_true rfl) (Nat.le_of_ble_eq_true rfl) rfl (Nat.le_of_ble_eq_true rfl) rfl rfl g11 g8 k
    · replace k := k.2 c
      refine w_iload_n dX12_asked_148 rfl ?_
      refine w_goto (pc' := 158) dX12_asked_149 rfl rfl ?_
      obtain ⟨g12, k⟩ := k
      obtain ⟨g13, k⟩ := k
      refine w_iastore dX12_asked_158 g12 g13 ?_
      refine w_aload_n dX12_asked_159 rfl ?_
      refine w_iconst dX12_asked_160 i1_1 ?_
      refine w_iload_n dX12_asked_161 rfl ?_
      refine w_iload_n dX12_asked_162 rfl ?_
      refine w_aload_n dX12_asked_163 rfl ?_
      obtain ⟨g14, k⟩ := k
      refine w_getR dX12_asked_164 f_12_32 t_12_9 g14 ?_
      refine w_iload_n dX12_asked_167 rfl ?_
      obtain ⟨g15, k⟩ := k
      obtain ⟨g16, k⟩ := k
      refine w_iaload dX12_asked_168 g15 g16 ?_
      obtain ⟨g17, k⟩ := k
      exact w_virt (as1 := [.int (hAI (sAI h (hR h 1210 v0) (v1).toNatClampNeg v2) (hR (sAI h (hR h 1210 v0) (v1).toNatClampNeg v2) 1209 v0) (v1).toNatClampNeg), .int v2, .int v1, .int (1 : Int32), .ref v0]) (as2 := [.ref v0, .int (1 : Int32), .int v1, .int v2, .int (hAI (sAI h (hR h 1210 v0) (v1).toNatClampNeg v2) (hR (sAI h (hR h 1210 v0) (v1).toNatClampNeg v2) 1209 v0) (v1).toNatClampNeg)]) (rest := []) (lo2 := [some (.ref v0), some (.int (1 : Int32)), some (.int v1), some (.int v2), some (.int (hAI (sAI h (hR h 1210 v0) (v1).toNatClampNeg v2) (hR (sAI h (hR h 1210 v0) (v1).toNatClampNeg v2) 1209 v0) (v1).toNatClampNeg)), none, none]) dX12_asked_169 c_12_229 rfl rfl rfl (Nat.le_of_ble_eq_true rfl) (Nat.le_of_ble_eq_true rfl) rfl (Nat.le_of_ble_eq_true rfl) rfl rfl g17 g14 k
  · replace k := k.2 c
    refine w_iload dX12_asked_103 rfl ?_
    refine w_if_eq (pc' := 135) dX12_asked_105 rfl rfl ⟨fun c => ?_, fun c => ?_⟩
    · replace k := k.1 c
      refine w_iconst dX12_asked_135 i1_0 ?_
      refine w_istore (lo' := [some (.ref v0), some (.int v1), some (.int v2), some (.int v3), some (.int v4), some (.int (1 : Int32)), some (.int (0 : Int32)), u7]) dX12_asked_136 (ltQ rfl) rfl ?_
      refine w_aload_n dX12_asked_138 rfl ?_
      refine w_getR dX12_asked_139 f_12_36 t_12_10 g1 ?_
      refine w_iload_n dX12_asked_142 rfl ?_
      refine w_iload dX12_asked_143 rfl ?_
      refine w_if_eq (pc' := 152) dX12_asked_145 rfl rfl ⟨fun c => ?_, fun c => ?_⟩
      · replace k := k.1 c
        refine w_aload_n dX12_asked_152 rfl ?_
        refine w_getR dX12_asked_153 f_12_36 t_12_10 g1 ?_
        refine w_iload_n dX12_asked_156 rfl ?_
        obtain ⟨g18, k⟩ := k
        obtain ⟨g19, k⟩ := k
        refine w_iaload dX12_asked_157 g18 g19 ?_
        refine w_iastore dX12_asked_158 g18 g19 ?_
        refine w_aload_n dX12_asked_159 rfl ?_
        refine w_iconst dX12_asked_160 i1_1 ?_
        refine w_iload_n dX12_asked_161 rfl ?_
        refine w_iload_n dX12_asked_162 rfl ?_
        refine w_aload_n dX12_asked_163 rfl ?_
        obtain ⟨g20, k⟩ := k
        refine w_getR dX12_asked_164 f_12_32 t_12_9 g20 ?_
        refine w_iload_n dX12_asked_167 rfl ?_
        obtain ⟨g21, k⟩ := k
        obtain ⟨g22, k⟩ := k
        refine w_iaload dX12_asked_168 g21 g22 ?_
        obtain ⟨g23, k⟩ := k
        exact w_virt (as1 := [.int (hAI (sAI h (hR h 1210 v0) (v1).toNatClampNeg (hAI h (hR h 1210 v0) (v1).toNatClampNeg)) (hR (sAI h (hR h 1210 v0) (v1).toNatClampNeg (hAI h (hR h 1210 v0) (v1).toNatClampNeg)) 1209 v0) (v1).toNatClampNeg), .int v2, .int v1, .int (1 : Int32), .ref v0]) (as2 := [.ref v0, .int (1 : Int32), .int v1, .int v2, .int (hAI (sAI h (hR h 1210 v0) (v1).toNatClampNeg (hAI h (hR h 1210 v0) (v1).toNatClampNeg)) (hR (sAI h (hR h 1210 v0) (v1).toNatClampNeg (hAI h (hR h 1210 v0) (v1).toNatClampNeg)) 1209 v0) (v1).toNatClampNeg)]) (rest := []) (lo2 := [some (.ref v0), some (.int (1 : Int32)), some (.int v1), some (.int v2), some (.int (hAI (sAI h (hR h 1210 v0) (v1).toNatClampNeg (hAI h (hR h 1210 v0) (v1).toNatClampNeg)) (hR (sAI h (hR h 1210 v0) (v1).toNatClampNeg (hAI h (hR h 1210 v0) (v1).toNatClampNeg)) 1209 v0) (v1).toNatClampNeg)), none, none]) dX12_asked_169 c_12_229 rfl rfl rfl (Nat.le_of_ble_eq_true rfl) (Nat.le_of_ble_eq_true rfl) rfl (Nat.le_of_ble_eq_true rfl) rfl rfl g23 g20 k
      · replace k := k.2 c
        refine w_iload_n dX12_asked_148 rfl ?_
        refine w_goto (pc' := 158) dX12_asked_149 rfl rfl ?_
        obtain ⟨g24, k⟩ := k
        obtain ⟨g25, k⟩ := k
        refine w_iastore dX12_asked_158 g24 g25 ?_
        refine w_aload_n dX12_asked_159 rfl ?_
        refine w_iconst dX12_asked_160 i1_1 ?_
        refine w_iload_n dX12_asked_161 rfl ?_
        refine w_iload_n dX12_asked_162 rfl ?_
        refine w_aload_n dX12_asked_163 rfl ?_
        obtain ⟨g26, k⟩ := k
        refine w_getR dX12_asked_164 f_12_32 t_12_9 g26 ?_
        refine w_iload_n dX12_asked_167 rfl ?_
        obtain ⟨g27, k⟩ := k
        obtain ⟨g28, k⟩ := k
        refine w_iaload dX12_asked_168 g27 g28 ?_
        obtain ⟨g29, k⟩ := k
        exact w_virt (as1 := [.int (hAI (sAI h (hR h 1210 v0) (v1).toNatClampNeg v2) (hR (sAI h (hR h 1210 v0) (v1).toNatClampNeg v2) 1209 v0) (v1).toNatClampNeg), .int v2, .int v1, .int (1 : Int32), .ref v0]) (as2 := [.ref v0, .int (1 : Int32), .int v1, .int v2, .int (hAI (sAI h (hR h 1210 v0) (v1).toNatClampNeg v2) (hR (sAI h (hR h 1210 v0) (v1).toNatClampNeg v2) 1209 v0) (v1).toNatClampNeg)]) (rest := []) (lo2 := [some (.ref v0), some (.int (1 : Int32)), some (.int v1), some (.int v2), some (.int (hAI (sAI h (hR h 1210 v0) (v1).toNatClampNeg v2) (hR (sAI h (hR h 1210 v0) (v1).toNatClampNeg v2) 1209 v0) (v1).toNatClampNeg)), none, none]) dX12_asked_169 c_12_229 rfl rfl rfl (Nat.le_of_ble_eq_true rfl) (Nat.le_of_ble_eq_true rfl) rfl (Nat.le_of_ble_eq_true rfl) rfl rfl g29 g26 k
    · replace k := k.2 c
      refine w_iload dX12_asked_108 rfl ?_
      refine w_if_eq (pc' := 135) dX12_asked_110 rfl rfl ⟨fun c => ?_, fun c => ?_⟩
      · replace k := k.1 c
        refine w_iconst dX12_asked_135 i1_0 ?_
        refine w_istore (lo' := [some (.ref v0), some (.int v1), some (.int v2), some (.int v3), some (.int v4), some (.int (1 : Int32)), some (.int (0 : Int32)), u7]) dX12_asked_136 (ltQ rfl) rfl ?_
        refine w_aload_n dX12_asked_138 rfl ?_
        refine w_getR dX12_asked_139 f_12_36 t_12_10 g1 ?_
        refine w_iload_n dX12_asked_142 rfl ?_
        refine w_iload dX12_asked_143 rfl ?_
        refine w_if_eq (pc' := 152) dX12_asked_145 rfl rfl ⟨fun c => ?_, fun c => ?_⟩
        · replace k := k.1 c
          refine w_aload_n dX12_asked_152 rfl ?_
          refine w_getR dX12_asked_153 f_12_36 t_12_10 g1 ?_
          refine w_iload_n dX12_asked_156 rfl ?_
          obtain ⟨g30, k⟩ := k
          obtain ⟨g31, k⟩ := k
          refine w_iaload dX12_asked_157 g30 g31 ?_
          refine w_iastore dX12_asked_158 g30 g31 ?_
          refine w_aload_n dX12_asked_159 rfl ?_
          refine w_iconst dX12_asked_160 i1_1 ?_
          refine w_iload_n dX12_asked_161 rfl ?_
          refine w_iload_n dX12_asked_162 rfl ?_
          refine w_aload_n dX12_asked_163 rfl ?_
          obtain ⟨g32, k⟩ := k
          refine w_getR dX12_asked_164 f_12_32 t_12_9 g32 ?_
          refine w_iload_n dX12_asked_167 rfl ?_
          obtain ⟨g33, k⟩ := k
          obtain ⟨g34, k⟩ := k
          refine w_iaload dX12_asked_168 g33 g34 ?_
          obtain ⟨g35, k⟩ := k
          exact w_virt (as1 := [.int (hAI (sAI h (hR h 1210 v0) (v1).toNatClampNeg (hAI h (hR h 1210 v0) (v1).toNatClampNeg)) (hR (sAI h (hR h 1210 v0) (v1).toNatClampNeg (hAI h (hR h 1210 v0) (v1).toNatClampNeg)) 1209 v0) (v1).toNatClampNeg), .int v2, .int v1, .int (1 : Int32), .ref v0]) (as2 := [.ref v0, .int (1 : Int32), .int v1, .int v2, .int (hAI (sAI h (hR h 1210 v0) (v1).toNatClampNeg (hAI h (hR h 1210 v0) (v1).toNatClampNeg)) (hR (sAI h (hR h 1210 v0) (v1).toNatClampNeg (hAI h (hR h 1210 v0) (v1).toNatClampNeg)) 1209 v0) (v1).toNatClampNeg)]) (rest := []) (lo2 := [some (.ref v0), some (.int (1 : Int32)), some (.int v1), some (.int v2), some (.int (hAI (sAI h (hR h 1210 v0) (v1).toNatClampNeg (hAI h (hR h 1210 v0) (v1).toNatClampNeg)) (hR (sAI h (hR h 1210 v0) (v1).toNatClampNeg (hAI h (hR h 1210 v0) (v1).toNatClampNeg)) 1209 v0) (v1).toNatClampNeg)), none, none]) dX12_asked_169 c_12_229 rfl rfl rfl (Nat.le_of_ble_eq_true rfl) (Nat.le_of_ble_eq_true rfl) rfl (Nat.le_of_ble_eq_true rfl) rfl rfl g35 g32 k
        · replace k := k.2 c
          refine w_iload_n dX12_asked_148 rfl ?_
          refine w_goto (pc' := 158) dX12_asked_149 rfl rfl ?_
          obtain ⟨g36, k⟩ := k
          obtain ⟨g37, k⟩ := k
          refine w_iastore dX12_asked_158 g36 g37 ?_
          refine w_aload_n dX12_asked_159 rfl ?_
          refine w_iconst dX12_asked_160 i1_1 ?_
          refine w_iload_n dX12_asked_161 rfl ?_
          refine w_iload_n dX12_asked_162 rfl ?_
          refine w_aload_n dX12_asked_163 rfl ?_
          obtain ⟨g38, k⟩ := k
          refine w_getR dX12_asked_164 f_12_32 t_12_9 g38 ?_
          refine w_iload_n dX12_asked_167 rfl ?_
          obtain ⟨g39, k⟩ := k
          obtain ⟨g40, k⟩ := k
          refine w_iaload dX12_asked_168 g39 g40 ?_
          obtain ⟨g41, k⟩ := k
          exact w_virt (as1 := [.int (hAI (sAI h (hR h 1210 v0) (v1).toNatClampNeg v2) (hR (sAI h (hR h 1210 v0) (v1).toNatClampNeg v2) 1209 v0) (v1).toNatClampNeg), .int v2, .int v1, .int (1 : Int32), .ref v0]) (as2 := [.ref v0, .int (1 : Int32), .int v1, .int v2, .int (hAI (sAI h (hR h 1210 v0) (v1).toNatClampNeg v2) (hR (sAI h (hR h 1210 v0) (v1).toNatClampNeg v2) 1209 v0) (v1).toNatClampNeg)]) (rest := []) (lo2 := [some (.ref v0), some (.int (1 : Int32)), some (.int v1), some (.int v2), some (.int (hAI (sAI h (hR h 1210 v0) (v1).toNatClampNeg v2) (hR (sAI h (hR h 1210 v0) (v1).toNatClampNeg v2) 1209 v0) (v1).toNatClampNeg)), none, none]) dX12_asked_169 c_12_229 rfl rfl rfl (Nat.le_of_ble_eq_true rfl) (Nat.le_of_ble_eq_true rfl) rfl (Nat.le_of_ble_eq_true rfl) rfl rfl g41 g38 k
      · replace k := k.2 c
        refine w_aload_n dX12_asked_113 rfl ?_
        refine w_iload_n dX12_asked_114 rfl ?_
        obtain ⟨g42, k⟩ := k
        exact w_virt (as1 := [.int v1, .ref v0]) (as2 := [.ref v0, .int v1]) (rest := []) (lo2 := [some (.ref v0), some (.int v1)]) dX12_asked_115 c_12_226 rfl rfl rfl (Nat.le_of_ble_eq_true rfl) (Nat.le_of_ble_eq_true rfl) rfl (Nat.le_of_ble_eq_true rfl) rfl rfl g42 g1 k
theorem bX12_asked_118 {d : Nat} {h : HP} {Q : Out → HP → Prop} {v0 : Nat} {v1 : Int32} {v2 : Int32} {v3 : Int32} {v4 : Int32} {v5 : Int32} {u6 : Option Value} {u7 : Option Value} {s0 : Int32} (k : ((s0 = 0) → (hK h v0 = 12) ∧ ((((1 : Int32) = 0) → (hK h (hR h 1210 v0) = 20) ∧ ((inA h (hR h 1210 v0) v1 = true) ∧ ((hK (sAI h (hR h 1210 v0) (v1).toNatClampNeg (hAI h (hR h 1210 v0) (v1).toNatClampNeg)) v0 = 12) ∧ ((hK (sAI h (hR h 1210 v0) (v1).toNatClampNeg (hAI h (hR h 1210 v0) (v1).toNatClampNeg)) (hR (sAI h (hR h 1210 v0) (v1).toNatClampNeg (hAI h (hR h 1210 v0) (v1).toNatClampNeg)) 1209 v0) = 20) ∧ ((inA (sAI h (hR h 1210 v0) (v1).toNatClampNeg (hAI h (hR h 1210 v0) (v1).toNatClampNeg)) (hR (sAI h (hR h 1210 v0) (v1).toNatClampNeg (hAI h (hR h 1210 v0) (v1).toNatClampNeg)) 1209 v0) v1 = true) ∧ ((1 < v0) ∧ (WP d mX12_sends 0 [some (.ref v0), some (.int (1 : Int32)), some (.int v1), some (.int v2), some (.int (hAI (sAI h (hR h 1210 v0) (v1).toNatClampNeg (hAI h (hR h 1210 v0) (v1).toNatClampNeg)) (hR (sAI h (hR h 1210 v0) (v1).toNatClampNeg (hAI h (hR h 1210 v0) (v1).toNatClampNeg)) 1209 v0) (v1).toNatClampNeg)), none, none] [] (sAI h (hR h 1210 v0) (v1).toNatClampNeg (hAI h (hR h 1210 v0) (v1).toNatClampNeg)) (KK d mX12_asked mX12_sends 169 [some (.ref v0), some (.int v1), some (.int v2), some (.int v3), some (.int v4), some (.int v5), some (.int (1 : Int32)), u7] [] Q)))))))) ∧ ((¬ ((1 : Int32) = 0)) → (hK h (hR h 1210 v0) = 20) ∧ ((inA h (hR h 1210 v0) v1 = true) ∧ ((hK (sAI h (hR h 1210 v0) (v1).toNatClampNeg v2) v0 = 12) ∧ ((hK (sAI h (hR h 1210 v0) (v1).toNatClampNeg v2) (hR (sAI h (hR h 1210 v0) (v1).toNatClampNeg v2) 1209 v0) = 20) ∧ ((inA (sAI h (hR h 1210 v0) (v1).toNatClampNeg v2) (hR (sAI h (hR h 1210 v0) (v1).toNatClampNeg v2) 1209 v0) v1 = true) ∧ ((1 < v0) ∧ (WP d mX12_sends 0 [some (.ref v0), some (.int (1 : Int32)), some (.int v1), some (.int v2), some (.int (hAI (sAI h (hR h 1210 v0) (v1).toNatClampNeg v2) (hR (sAI h (hR h 1210 v0) (v1).toNatClampNeg v2) 1209 v0) (v1).toNatClampNeg)), none, none] [] (sAI h (hR h 1210 v0) (v1).toNatClampNeg v2) (KK d mX12_asked mX12_sends 169 [some (.ref v0), some (.int v1), some (.int v2), some (.int v3), some (.int v4), some (.int v5), some (.int (1 : Int32)), u7] [] Q)))))))))) ∧ ((¬ (s0 = 0)) → (hK h v0 = 12) ∧ ((hK h (hR h 1225 v0) = 20) ∧ ((inA h (hR h 1225 v0) v1 = true) ∧ (((¬ (hAI h (hR h 1225 v0) (v1).toNatClampNeg) = v2) → (((0 : Int32) = 0) → (hK h (hR h 1210 v0) = 20) ∧ ((inA h (hR h 1210 v0) v1 = true) ∧ ((hK (sAI h (hR h 1210 v0) (v1).toNatClampNeg (hAI h (hR h 1210 v0) (v1).toNatClampNeg)) v0 = 12) ∧ ((hK (sAI h (hR h 1210 v0) (v1).toNatClampNeg (hAI h (hR h 1210 v0) (v1).toNatClampNeg)) (hR (sAI h (hR h 1210 v0) (v1).toNatClampNeg (hAI h (hR h 1210 v0) (v1).toNatClampNeg)) 1209 v0) = 20) ∧ ((inA (sAI h (hR h 1210 v0) (v1).toNatClampNeg (hAI h (hR h 1210 v0) (v1).toNatClampNeg)) (hR (sAI h (hR h 1210 v0) (v1).toNatClampNeg (hAI h (hR h 1210 v0) (v1).toNatClampNeg)) 1209 v0) v1 = true) ∧ ((1 < v0) ∧ (WP d mX12_sends 0 [some (.ref v0), some (.int (1 : Int32)), some (.int v1), some (.int v2), some (.int (hAI (sAI h (hR h 1210 v0) (v1).toNatClampNeg (hAI h (hR h 1210 v0) (v1).toNatClampNeg)) (hR (sAI h (hR h 1210 v0) (v1).toNatClampNeg (hAI h (hR h 1210 v0) (v1).toNatClampNeg)) 1209 v0) (v1).toNatClampNeg)), none, none] [] (sAI h (hR h 1210 v0) (v1).toNatClampNeg (hAI h (hR h 1210 v0) (v1).toNatClampNeg)) (KK d mX12_asked mX12_sends 169 [some (.ref v0), some (.int v1), some (.int v2), some (.int v3), some (.int v4), some (.int v5), some (.int (0 : Int32)), u7] [] Q)))))))) ∧ ((¬ ((0 : Int32) = 0)) → (hK h (hR h 1210 v0) = 20) ∧ ((inA h (hR h 1210 v0) v1 = true) ∧ ((hK (sAI h (hR h 1210 v0) (v1).toNatClampNeg v2) v0 = 12) ∧ ((hK (sAI h (hR h 1210 v0) (v1).toNatClampNeg v2) (hR (sAI h (hR h 1210 v0) (v1).toNatClampNeg v2) 1209 v0) = 20) ∧ ((inA (sAI h (hR h 1210 v0) (v1).toNatClampNeg v2) (hR (sAI h (hR h 1210 v0) (v1).toNatClampNeg v2) 1209 v0) v1 = true) ∧ ((1 < v0) ∧ (WP d mX12_sends 0 [some (.ref v0), some (.int (1 : Int32)), some (.int v1), some (.int v2), some (.int (hAI (sAI h (hR h 1210 v0) (v1).toNatClampNeg v2) (hR (sAI h (hR h 1210 v0) (v1).toNatClampNeg v2) 1209 v0) (v1).toNatClampNeg)), none, none] [] (sAI h (hR h 1210 v0) (v1).toNatClampNeg v2) (KK d mX12_asked mX12_sends 169 [some (.ref v0), some (.int v1), some (.int v2), some (.int v3), some (.int v4), some (.int v5), some (.int (0 : Int32)), u7] [] Q))))))))) ∧ ((¬ (¬ (hAI h (hR h 1225 v0) (v1).toNatClampNeg) = v2)) → (((1 : Int32) = 0) → (hK h (hR h 1210 v0) = 20) ∧ ((inA h (hR h 1210 v0) v1 = true) ∧ ((hK (sAI h (hR h 1210 v0) (v1).toNatClampNeg (hAI h (hR h 1210 v0) (v1).toNatClampNeg)) v0 = 12) ∧ ((hK (sAI h (hR h 1210 v0) (v1).toNatClampNeg (hAI h (hR h 1210 v0) (v1).toNatClampNeg)) (hR (sAI h (hR h 1210 v0) (v1).toNatClampNeg (hAI h (hR h 1210 v0) (v1).toNatClampNeg)) 1209 v0) = 20) ∧ ((inA (sAI h (hR h 1210 v0) (v1).toNatClampNeg (hAI h (hR h 1210 v0) (v1).toNatClampNeg)) (hR (sAI h (hR h 1210 v0) (v1).toNatClampNeg (hAI h (hR h 1210 v0) (v1).toNatClampNeg)) 1209 v0) v1 = true) ∧ ((1 < v0) ∧ (WP d mX12_sends 0 [some (.ref v0), some (.int (1 : Int32)), some (.int v1), some (.int v2), some (.int (hAI (sAI h (hR h 1210 v0) (v1).toNatClampNeg (hAI h (hR h 1210 v0) (v1).toNatClampNeg)) (hR (sAI h (hR h 1210 v0) (v1).toNatClampNeg (hAI h (hR h 1210 v0) (v1).toNatClampNeg)) 1209 v0) (v1).toNatClampNeg)), none, none] [] (sAI h (hR h 1210 v0) (v1).toNatClampNeg (hAI h (hR h 1210 v0) (v1).toNatClampNeg)) (KK d mX12_asked mX12_sends 169 [some (.ref v0), some (.int v1), some (.int v2), some (.int v3), some (.int v4), some (.int v5), some (.int (1 : Int32)), u7] [] Q)))))))) ∧ ((¬ ((1 : Int32) = 0)) → (hK h (hR h 1210 v0) = 20) ∧ ((inA h (hR h 1210 v0) v1 = true) ∧ ((hK (sAI h (hR h 1210 v0) (v1).toNatClampNeg v2) v0 = 12) ∧ ((hK (sAI h (hR h 1210 v0) (v1).toNatClampNeg v2) (hR (sAI h (hR h 1210 v0) (v1).toNatClampNeg v2) 1209 v0) = 20) ∧ ((inA (sAI h (hR h 1210 v0) (v1).toNatClampNeg v2) (hR (sAI h (hR h 1210 v0) (v1).toNatClampNeg v2) 1209 v0) v1 = true) ∧ ((1 < v0) ∧ (WP d mX12_sends 0 [some (.ref v0), some (.int (1 : Int32)), some (.int v1), some (.int v2), some (.int (hAI (sAI h (hR h 1210 v0) (v1).toNatClampNeg v2) (hR (sAI h (hR h 1210 v0) (v1).toNatClampNeg v2) 1209 v0) (v1).toNatClampNeg)), none, none] [] (sAI h (hR h 1210 v0) (v1).toNatClampNeg v2) (KK d mX12_asked mX12_sends 169 [some (.ref v0), some (.int v1), some (.int v2), some (.int v3), some (.int v4), some (.int v5), some (.int (1 : Int32)), u7] [] Q)))))))))))))) : WP (d + 1) mX12_asked 118 [some (.ref v0), some (.int v1), some (.int v2), some (.int v3), some (.int v4), some (.int v5), u6, u7] [.int s0] h Q := by
  refine w_if_eq (pc' := 131) dX12_asked_118 rfl rfl ⟨fun c => ?_, fun c => ?_⟩
  · replace k := k.1 c
    refine w_iconst dX12_asked_131 i1_1 ?_
    refine w_goto (pc' := 136) dX12_asked_132 rfl rfl ?_
    refine w_istore (lo' := [some (.ref v0), some (.int v1), some (.int v2), some (.int v3), some (.int v4), some (.int v5), some (.int (1 : Int32)), u7]) dX12_asked_136 (ltQ rfl) rfl ?_
    refine w_aload_n dX12_asked_138 rfl ?_
    obtain ⟨g1, k⟩ := k
    refine w_getR dX12_asked_139 f_12_36 t_12_10 g1 ?_
    refine w_iload_n dX12_asked_142 rfl ?_
    refine w_iload dX12_asked_143 rfl ?_
    refine w_if_eq (pc' := 152) dX12_asked_145 rfl rfl ⟨fun c => ?_, fun c => ?_⟩
    · replace k := k.1 c
      refine w_aload_n dX12_asked_152 rfl ?_
      refine w_getR dX12_asked_153 f_12_36 t_12_10 g1 ?_
      refine w_iload_n dX12_asked_156 rfl ?_
      obtain ⟨g2, k⟩ := k
      obtain ⟨g3, k⟩ := k
      refine w_iaload dX12_asked_157 g2 g3 ?_
      refine w_iastore dX12_asked_158 g2 g3 ?_
      refine w_aload_n dX12_asked_159 rfl ?_
      refine w_iconst dX12_asked_160 i1_1 ?_
      refine w_iload_n dX12_asked_161 rfl ?_
      refine w_iload_n dX12_asked_162 rfl ?_
      refine w_aload_n dX12_asked_163 rfl ?_
      obtain ⟨g4, k⟩ := k
      refine w_getR dX12_asked_164 f_12_32 t_12_9 g4 ?_
      refine w_iload_n dX12_asked_167 rfl ?_
      obtain ⟨g5, k⟩ := k
      obtain ⟨g6, k⟩ := k
      refine w_iaload dX12_asked_168 g5 g6 ?_
      obtain ⟨g7, k⟩ := k
      exact w_virt (as1 := [.int (hAI (sAI h (hR h 1210 v0) (v1).toNatClampNeg (hAI h (hR h 1210 v0) (v1).toNatClampNeg)) (hR (sAI h (hR h 1210 v0) (v1).toNatClampNeg (hAI h (hR h 1210 v0) (v1).toNatClampNeg)) 1209 v0) (v1).toNatClampNeg), .int v2, .int v1, .int (1 : Int32), .ref v0]) (as2 := [.ref v0, .int (1 : Int32), .int v1, .int v2, .int (hAI (sAI h (hR h 1210 v0) (v1).toNatClampNeg (hAI h (hR h 1210 v0) (v1).toNatClampNeg)) (hR (sAI h (hR h 1210 v0) (v1).toNatClampNeg (hAI h (hR h 1210 v0) (v1).toNatClampNeg)) 1209 v0) (v1).toNatClampNeg)]) (rest := []) (lo2 := [some (.ref v0), some (.int (1 : Int32)), some (.int v1), some (.int v2), some (.int (hAI (sAI h (hR h 1210 v0) (v1).toNatClampNeg (hAI h (hR h 1210 v0) (v1).toNatClampNeg)) (hR (sAI h (hR h 1210 v0) (v1).toNatClampNeg (hAI h (hR h 1210 v0) (v1).toNatClampNeg)) 1209 v0) (v1).toNatClampNeg)), none, none]) dX12_asked_169 c_12_229 rfl rfl rfl (Nat.le_of_ble_eq_true rfl) (Nat.le_of_ble_eq_true rfl) rfl (Nat.le_of_ble_eq_true rfl) rfl rfl g7 g4 k
    · replace k := k.2 c
      refine w_iload_n dX12_asked_148 rfl ?_
      refine w_goto (pc' := 158) dX12_asked_149 rfl rfl ?_
      obtain ⟨g8, k⟩ := k
      obtain ⟨g9, k⟩ := k
      refine w_iastore dX12_asked_158 g8 g9 ?_
      refine w_aload_n dX12_asked_159 rfl ?_
      refine w_iconst dX12_asked_160 i1_1 ?_
      refine w_iload_n dX12_asked_161 rfl ?_
      refine w_iload_n dX12_asked_162 rfl ?_
      refine w_aload_n dX12_asked_163 rfl ?_
      obtain ⟨g10, k⟩ := k
      refine w_getR dX12_asked_164 f_12_32 t_12_9 g10 ?_
      refine w_iload_n dX12_asked_167 rfl ?_
      obtain ⟨g11, k⟩ := k
      obtain ⟨g12, k⟩ := k
      refine w_iaload dX12_asked_168 g11 g12 ?_
      obtain ⟨g13, k⟩ := k
      exact w_virt (as1 := [.int (hAI (sAI h (hR h 1210 v0) (v1).toNatClampNeg v2) (hR (sAI h (hR h 1210 v0) (v1).toNatClampNeg v2) 1209 v0) (v1).toNatClampNeg), .int v2, .int v1, .int (1 : Int32), .ref v0]) (as2 := [.ref v0, .int (1 : Int32), .int v1, .int v2, .int (hAI (sAI h (hR h 1210 v0) (v1).toNatClampNeg v2) (hR (sAI h (hR h 1210 v0) (v1).toNatClampNeg v2) 1209 v0) (v1).toNatClampNeg)]) (rest := []) (lo2 := [some (.ref v0), some (.int (1 : Int32)), some (.int v1), some (.int v2), some (.int (hAI (sAI h (hR h 1210 v0) (v1).toNatClampNeg v2) (hR (sAI h (hR h 1210 v0) (v1).toNatClampNeg v2) 1209 v0) (v1).toNatClampNeg)), none, none]) dX12_asked_169 c_12_229 rfl rfl rfl (Nat.le_of_ble_eq_true rfl) (Nat.le_of_ble_eq_true rfl) rfl (Nat.le_of_ble_eq_true rfl) rfl rfl g13 g10 k
  · replace k := k.2 c
    refine w_aload_n dX12_asked_121 rfl ?_
    obtain ⟨g14, k⟩ := k
    refine w_getR dX12_asked_122 f_12_81 t_12_25 g14 ?_
    refine w_iload_n dX12_asked_125 rfl ?_
    obtain ⟨g15, k⟩ := k
    obtain ⟨g16, k⟩ := k
    refine w_iaload dX12_asked_126 g15 g16 ?_
    refine w_iload_n dX12_asked_127 rfl ?_
    refine w_ic_ne (pc' := 135) dX12_asked_128 rfl rfl ⟨fun c => ?_, fun c => ?_⟩
    · replace k := k.1 c
      refine w_iconst dX12_asked_135 i1_0 ?_
      refine w_istore (lo' := [some (.ref v0), some (.int v1), some (.int v2), some (.int v3), some (.int v4), some (.int v5), some (.int (0 : Int32)), u7]) dX12_asked_136 (ltQ rfl) rfl ?_
      refine w_aload_n dX12_asked_138 rfl ?_
      refine w_getR dX12_asked_139 f_12_36 t_12_10 g14 ?_
      refine w_iload_n dX12_asked_142 rfl ?_
      refine w_iload dX12_asked_143 rfl ?_
      refine w_if_eq (pc' := 152) dX12_asked_145 rfl rfl ⟨fun c => ?_, fun c => ?_⟩
      · replace k := k.1 c
        refine w_aload_n dX12_asked_152 rfl ?_
        refine w_getR dX12_asked_153 f_12_36 t_12_10 g14 ?_
        refine w_iload_n dX12_asked_156 rfl ?_
        obtain ⟨g17, k⟩ := k
        obtain ⟨g18, k⟩ := k
        refine w_iaload dX12_asked_157 g17 g18 ?_
        refine w_iastore dX12_asked_158 g17 g18 ?_
        refine w_aload_n dX12_asked_159 rfl ?_
        refine w_iconst dX12_asked_160 i1_1 ?_
        refine w_iload_n dX12_asked_161 rfl ?_
        refine w_iload_n dX12_asked_162 rfl ?_
        refine w_aload_n dX12_asked_163 rfl ?_
        obtain ⟨g19, k⟩ := k
        refine w_getR dX12_asked_164 f_12_32 t_12_9 g19 ?_
        refine w_iload_n dX12_asked_167 rfl ?_
        obtain ⟨g20, k⟩ := k
        obtain ⟨g21, k⟩ := k
        refine w_iaload dX12_asked_168 g20 g21 ?_
        obtain ⟨g22, k⟩ := k
        exact w_virt (as1 := [.int (hAI (sAI h (hR h 1210 v0) (v1).toNatClampNeg (hAI h (hR h 1210 v0) (v1).toNatClampNeg)) (hR (sAI h (hR h 1210 v0) (v1).toNatClampNeg (hAI h (hR h 1210 v0) (v1).toNatClampNeg)) 1209 v0) (v1).toNatClampNeg), .int v2, .int v1, .int (1 : Int32), .ref v0]) (as2 := [.ref v0, .int (1 : Int32), .int v1, .int v2, .int (hAI (sAI h (hR h 1210 v0) (v1).toNatClampNeg (hAI h (hR h 1210 v0) (v1).toNatClampNeg)) (hR (sAI h (hR h 1210 v0) (v1).toNatClampNeg (hAI h (hR h 1210 v0) (v1).toNatClampNeg)) 1209 v0) (v1).toNatClampNeg)]) (rest := []) (lo2 := [some (.ref v0), some (.int (1 : Int32)), some (.int v1), some (.int v2), some (.int (hAI (sAI h (hR h 1210 v0) (v1).toNatClampNeg (hAI h (hR h 1210 v0) (v1).toNatClampNeg)) (hR (sAI h (hR h 1210 v0) (v1).toNatClampNeg (hAI h (hR h 1210 v0) (v1).toNatClampNeg)) 1209 v0) (v1).toNatClampNeg)), none, none]) dX12_asked_169 c_12_229 rfl rfl rfl (Nat.le_of_ble_eq_true rfl) (Nat.le_of_ble_eq_true rfl) rfl (Nat.le_of_ble_eq_true rfl) rfl rfl g22 g19 k
      · replace k := k.2 c
        refine w_iload_n dX12_asked_148 rfl ?_
        refine w_goto (pc' := 158) dX12_asked_149 rfl rfl ?_
        obtain ⟨g23, k⟩ := k
        obtain ⟨g24, k⟩ := k
        refine w_iastore dX12_asked_158 g23 g24 ?_
        refine w_aload_n dX12_asked_159 rfl ?_
        refine w_iconst dX12_asked_160 i1_1 ?_
        refine w_iload_n dX12_asked_161 rfl ?_
        refine w_iload_n dX12_asked_162 rfl ?_
        refine w_aload_n dX12_asked_163 rfl ?_
        obtain ⟨g25, k⟩ := k
        refine w_getR dX12_asked_164 f_12_32 t_12_9 g25 ?_
        refine w_iload_n dX12_asked_167 rfl ?_
        obtain ⟨g26, k⟩ := k
        obtain ⟨g27, k⟩ := k
        refine w_iaload dX12_asked_168 g26 g27 ?_
        obtain ⟨g28, k⟩ := k
        exact w_virt (as1 := [.int (hAI (sAI h (hR h 1210 v0) (v1).toNatClampNeg v2) (hR (sAI h (hR h 1210 v0) (v1).toNatClampNeg v2) 1209 v0) (v1).toNatClampNeg), .int v2, .int v1, .int (1 : Int32), .ref v0]) (as2 := [.ref v0, .int (1 : Int32), .int v1, .int v2, .int (hAI (sAI h (hR h 1210 v0) (v1).toNatClampNeg v2) (hR (sAI h (hR h 1210 v0) (v1).toNatClampNeg v2) 1209 v0) (v1).toNatClampNeg)]) (rest := []) (lo2 := [some (.ref v0), some (.int (1 : Int32)), some (.int v1), some (.int v2), some (.int (hAI (sAI h (hR h 1210 v0) (v1).toNatClampNeg v2) (hR (sAI h (hR h 1210 v0) (v1).toNatClampNeg v2) 1209 v0) (v1).toNatClampNeg)), none, none]) dX12_asked_169 c_12_229 rfl rfl rfl (Nat.le_of_ble_eq_true rfl) (Nat.le_of_ble_eq_true rfl) rfl (Nat.le_of_ble_eq_true rfl) rfl rfl g28 g25 k
    · replace k := k.2 c
      refine w_iconst dX12_asked_131 i1_1 ?_
      refine w_goto (pc' := 136) dX12_asked_132 rfl rfl ?_
      refine w_istore (lo' := [some (.ref v0), some (.int v1), some (.int v2), some (.int v3), some (.int v4), some (.int v5), some (.int (1 : Int32)), u7]) dX12_asked_136 (ltQ rfl) rfl ?_
      refine w_aload_n dX12_asked_138 rfl ?_
      refine w_getR dX12_asked_139 f_12_36 t_12_10 g14 ?_
      refine w_iload_n dX12_asked_142 rfl ?_
      refine w_iload dX12_asked_143 rfl ?_
      refine w_if_eq (pc' := 152) dX12_asked_145 rfl rfl ⟨fun c => ?_, fun c => ?_⟩
      · replace k := k.1 c
        refine w_aload_n dX12_asked_152 rfl ?_
        refine w_getR dX12_asked_153 f_12_36 t_12_10 g14 ?_
        refine w_iload_n dX12_asked_156 rfl ?_
        obtain ⟨g29, k⟩ := k
        obtain ⟨g30, k⟩ := k
        refine w_iaload dX12_asked_157 g29 g30 ?_
        refine w_iastore dX12_asked_158 g29 g30 ?_
        refine w_aload_n dX12_asked_159 rfl ?_
        refine w_iconst dX12_asked_160 i1_1 ?_
        refine w_iload_n dX12_asked_161 rfl ?_
        refine w_iload_n dX12_asked_162 rfl ?_
        refine w_aload_n dX12_asked_163 rfl ?_
        obtain ⟨g31, k⟩ := k
        refine w_getR dX12_asked_164 f_12_32 t_12_9 g31 ?_
        refine w_iload_n dX12_asked_167 rfl ?_
        obtain ⟨g32, k⟩ := k
        obtain ⟨g33, k⟩ := k
        refine w_iaload dX12_asked_168 g32 g33 ?_
        obtain ⟨g34, k⟩ := k
        exact w_virt (as1 := [.int (hAI (sAI h (hR h 1210 v0) (v1).toNatClampNeg (hAI h (hR h 1210 v0) (v1).toNatClampNeg)) (hR (sAI h (hR h 1210 v0) (v1).toNatClampNeg (hAI h (hR h 1210 v0) (v1).toNatClampNeg)) 1209 v0) (v1).toNatClampNeg), .int v2, .int v1, .int (1 : Int32), .ref v0]) (as2 := [.ref v0, .int (1 : Int32), .int v1, .int v2, .int (hAI (sAI h (hR h 1210 v0) (v1).toNatClampNeg (hAI h (hR h 1210 v0) (v1).toNatClampNeg)) (hR (sAI h (hR h 1210 v0) (v1).toNatClampNeg (hAI h (hR h 1210 v0) (v1).toNatClampNeg)) 1209 v0) (v1).toNatClampNeg)]) (rest := []) (lo2 := [some (.ref v0), some (.int (1 : Int32)), some (.int v1), some (.int v2), some (.int (hAI (sAI h (hR h 1210 v0) (v1).toNatClampNeg (hAI h (hR h 1210 v0) (v1).toNatClampNeg)) (hR (sAI h (hR h 1210 v0) (v1).toNatClampNeg (hAI h (hR h 1210 v0) (v1).toNatClampNeg)) 1209 v0) (v1).toNatClampNeg)), none, none]) dX12_asked_169 c_12_229 rfl rfl rfl (Nat.le_of_ble_eq_true rfl) (Nat.le_of_ble_eq_true rfl) rfl (Nat.le_of_ble_eq_true rfl) rfl rfl g34 g31 k
      · replace k := k.2 c
        refine w_iload_n dX12_asked_148 rfl ?_
        refine w_goto (pc' := 158) dX12_asked_149 rfl rfl ?_
        obtain ⟨g35, k⟩ := k
        obtain ⟨g36, k⟩ := k
        refine w_iastore dX12_asked_158 g35 g36 ?_
        refine w_aload_n dX12_asked_159 rfl ?_
        refine w_iconst dX12_asked_160 i1_1 ?_
        refine w_iload_n dX12_asked_161 rfl ?_
        refine w_iload_n dX12_asked_162 rfl ?_
        refine w_aload_n dX12_asked_163 rfl ?_
        obtain ⟨g37, k⟩ := k
        refine w_getR dX12_asked_164 f_12_32 t_12_9 g37 ?_
        refine w_iload_n dX12_asked_167 rfl ?_
        obtain ⟨g38, k⟩ := k
        obtain ⟨g39, k⟩ := k
        refine w_iaload dX12_asked_168 g38 g39 ?_
        obtain ⟨g40, k⟩ := k
        exact w_virt (as1 := [.int (hAI (sAI h (hR h 1210 v0) (v1).toNatClampNeg v2) (hR (sAI h (hR h 1210 v0) (v1).toNatClampNeg v2) 1209 v0) (v1).toNatClampNeg), .int v2, .int v1, .int (1 : Int32), .ref v0]) (as2 := [.ref v0, .int (1 : Int32), .int v1, .int v2, .int (hAI (sAI h (hR h 1210 v0) (v1).toNatClampNeg v2) (hR (sAI h (hR h 1210 v0) (v1).toNatClampNeg v2) 1209 v0) (v1).toNatClampNeg)]) (rest := []) (lo2 := [some (.ref v0), some (.int (1 : Int32)), some (.int v1), some (.int v2), some (.int (hAI (sAI h (hR h 1210 v0) (v1).toNatClampNeg v2) (hR (sAI h (hR h 1210 v0) (v1).toNatClampNeg v2) 1209 v0) (v1).toNatClampNeg)), none, none]) dX12_asked_169 c_12_229 rfl rfl rfl (Nat.le_of_ble_eq_true rfl) (Nat.le_of_ble_eq_true rfl) rfl (Nat.le_of_ble_eq_true rfl) rfl rfl g40 g37 k
theorem bX12_asked_172 {d : Nat} {h : HP} {Q : Out → HP → Prop} {v0 : Nat} {v1 : Int32} {v2 : Int32} {v3 : Int32} {v4 : Int32} {v5 : Int32} {v6 : Int32} {u7 : Option Value} {s0 : Int32} (k : ((s0 = (-1 : Int32)) → Q (.inl none) h) ∧ ((¬ (s0 = (-1 : Int32))) → (hK h v0 = 12) ∧ (((v6 = 0) → (hK h (hR h 1237 v0) = 20) ∧ ((inA h (hR h 1237 v0) (s0 + (7 : Int32)) = true) ∧ (Q (.inl none) (sAI h (hR h 1237 v0) ((s0 + (7 : Int32))).toNatClampNeg (0 : Int32))))) ∧ ((¬ (v6 = 0)) → (hK h (hR h 1237 v0) = 20) ∧ ((inA h (hR h 1237 v0) (s0 + (7 : Int32)) = true) ∧ (Q (.inl none) (sAI h (hR h 1237 v0) ((s0 + (7 : Int32))).toNatClampNeg (1 : Int32)))))))) : WP d mX12_asked 172 [some (.ref v0), some (.int v1), some (.int v2), some (.int v3), some (.int v4), some (.int v5), some (.int v6), u7] [.int s0] h Q := by
  refine w_istore (lo' := [some (.ref v0), some (.int v1), some (.int v2), some (.int v3), some (.int v4), some (.int v5), some (.int v6), some (.int s0)]) dX12_asked_172 (ltQ rfl) rfl ?_
  refine w_iload dX12_asked_174 rfl ?_
  refine w_iconst dX12_asked_176 i1_m1 ?_
  refine w_ic_eq (pc' := 200) dX12_asked_177 rfl rfl ⟨fun c => ?_, fun c => ?_⟩
  · replace k := k.1 c
    exact w_return dX12_asked_200 rfl k
  · replace k := k.2 c
    refine w_aload_n dX12_asked_180 rfl ?_
    obtain ⟨g1, k⟩ := k
    refine w_getR dX12_asked_181 f_12_117 t_12_37 g1 ?_
    refine w_iload dX12_asked_184 rfl ?_
    refine w_bipush dX12_asked_186 i2_7 ?_
    refine w_iadd dX12_asked_188 ?_
    refine w_iload dX12_asked_189 rfl ?_
    refine w_if_eq (pc' := 198) dX12_asked_191 rfl rfl ⟨fun c => ?_, fun c => ?_⟩
    · replace k := k.1 c
      refine w_iconst dX12_asked_198 i1_0 ?_
      obtain ⟨g2, k⟩ := k
      obtain ⟨g3, k⟩ := k
      refine w_iastore dX12_asked_199 g2 g3 ?_
      exact w_return dX12_asked_200 rfl k
    · replace k := k.2 c
      refine w_iconst dX12_asked_194 i1_1 ?_
      refine w_goto (pc' := 199) dX12_asked_195 rfl rfl ?_
      obtain ⟨g4, k⟩ := k
      obtain ⟨g5, k⟩ := k
      refine w_iastore dX12_asked_199 g4 g5 ?_
      exact w_return dX12_asked_200 rfl k
theorem bX12_voted_0 {d : Nat} {h : HP} {Q : Out → HP → Prop} {v0 : Nat} {v1 : Int32} {u2 : Option Value} (k : (hK h v0 = 12) ∧ ((hK h (hR h 1211 v0) = 20) ∧ ((inA h (hR h 1211 v0) v1 = true) ∧ (((¬ (hAI h (hR h 1211 v0) (v1).toNatClampNeg) = (1 : Int32)) → Q (.inl none) h) ∧ ((¬ (¬ (hAI h (hR h 1211 v0) (v1).toNatClampNeg) = (1 : Int32))) → (hK h (hR h 1249 v0) = 20) ∧ ((inA h (hR h 1249 v0) (3 : Int32) = true) ∧ ((hK h (hR h 1209 v0) = 20) ∧ ((inA h (hR h 1209 v0) v1 = true) ∧ (((¬ (hAI h (hR h 1249 v0) ((3 : Int32)).toNatClampNeg) = (hAI h (hR h 1209 v0) (v1).toNatClampNeg)) → Q (.inl none) h) ∧ ((¬ (¬ (hAI h (hR h 1249 v0) ((3 : Int32)).toNatClampNeg) = (hAI h (hR h 1209 v0) (v1).toNatClampNeg))) → (inA h (hR h 1249 v0) (7 : Int32) = true) ∧ (((¬ (hAI h (hR h 1249 v0) ((7 : Int32)).toNatClampNeg) = 0) → (hK h (hR h 1218 v0) = 20) ∧ ((inA h (hR h 1218 v0) v1 = true) ∧ ((inA h (hR h 1249 v0) (1 : Int32) = true) ∧ ((hK (sAI h (hR h 1218 v0) (v1).toNatClampNeg ((hAI h (hR h 1218 v0) (v1).toNatClampNeg) ||| ((1 : Int32) <<< ((hAI h (hR h 1249 v0) ((1 : Int32)).toNatClampNeg) &&& 31)))) v0 = 12) ∧ ((hK (sAI h (hR h 1218 v0) (v1).toNatClampNeg ((hAI h (hR h 1218 v0) (v1).toNatClampNeg) ||| ((1 : Int32) <<< ((hAI h (hR h 1249 v0) ((1 : Int32)).toNatClampNeg) &&& 31)))) (hR (sAI h (hR h 1218 v0) (v1).toNatClampNeg ((hAI h (hR h 1218 v0) (v1).toNatClampNeg) ||| ((1 : Int32) <<< ((hAI h (hR h 1249 v0) ((1 : Int32)).toNatClampNeg) &&& 31)))) 1218 v0) = 20) ∧ ((inA (sAI h (hR h 1218 v0) (v1).toNatClampNeg ((hAI h (hR h 1218 v0) (v1).toNatClampNeg) ||| ((1 : Int32) <<< ((hAI h (hR h 1249 v0) ((1 : Int32)).toNatClampNeg) &&& 31)))) (hR (sAI h (hR h 1218 v0) (v1).toNatClampNeg ((hAI h (hR h 1218 v0) (v1).toNatClampNeg) ||| ((1 : Int32) <<< ((hAI h (hR h 1249 v0) ((1 : Int32)).toNatClampNeg) &&& 31)))) 1218 v0) v1 = true) ∧ (WP d mX12_voted 59 [some (.ref v0), some (.int v1), u2] [.int (hAI (sAI h (hR h 1218 v0) (v1).toNatClampNeg ((hAI h (hR h 1218 v0) (v1).toNatClampNeg) ||| ((1 : Int32) <<< ((hAI h (hR h 1249 v0) ((1 : Int32)).toNatClampNeg) &&& 31)))) (hR (sAI h (hR h 1218 v0) (v1).toNatClampNeg ((hAI h (hR h 1218 v0) (v1).toNatClampNeg) ||| ((1 : Int32) <<< ((hAI h (hR h 1249 v0) ((1 : Int32)).toNatClampNeg) &&& 31)))) 1218 v0) (v1).toNatClampNeg)] (sAI h (hR h 1218 v0) (v1).toNatClampNeg ((hAI h (hR h 1218 v0) (v1).toNatClampNeg) ||| ((1 : Int32) <<< ((hAI h (hR h 1249 v0) ((1 : Int32)).toNatClampNeg) &&& 31)))) Q))))))) ∧ ((¬ (¬ (hAI h (hR h 1249 v0) ((7 : Int32)).toNatClampNeg) = 0)) → Q (.inl none) h)))))))))))) : WP d mX12_voted 0 [some (.ref v0), some (.int v1), u2] [] h Q := by
  refine w_aload_n dX12_voted_0 rfl ?_
  obtain ⟨g1, k⟩ := k
  refine w_getR dX12_voted_1 f_12_39 t_12_11 g1 ?_
  refine w_iload_n dX12_voted_4 rfl ?_
  obtain ⟨g2, k⟩ := k
  obtain ⟨g3, k⟩ := k
  refine w_iaload dX12_voted_5 g2 g3 ?_
  refine w_iconst dX12_voted_6 i1_1 ?_
  refine w_ic_ne (pc' := 35) dX12_voted_7 rfl rfl ⟨fun c => ?_, fun c => ?_⟩
  · replace k := k.1 c
    exact w_return dX12_voted_35 rfl k
  · replace k := k.2 c
    refine w_aload_n dX12_voted_10 rfl ?_
    refine w_getR dX12_voted_11 f_12_144 t_12_49 g1 ?_
    refine w_iconst dX12_voted_14 i1_3 ?_
    obtain ⟨g4, k⟩ := k
    obtain ⟨g5, k⟩ := k
    refine w_iaload dX12_voted_15 g4 g5 ?_
    refine w_aload_n dX12_voted_16 rfl ?_
    refine w_getR dX12_voted_17 f_12_32 t_12_9 g1 ?_
    refine w_iload_n dX12_voted_20 rfl ?_
    obtain ⟨g6, k⟩ := k
    obtain ⟨g7, k⟩ := k
    refine w_iaload dX12_voted_21 g6 g7 ?_
    refine w_ic_ne (pc' := 35) dX12_voted_22 rfl rfl ⟨fun c => ?_, fun c => ?_⟩
    · replace k := k.1 c
      exact w_return dX12_voted_35 rfl k
    · replace k := k.2 c
      refine w_aload_n dX12_voted_25 rfl ?_
      refine w_getR dX12_voted_26 f_12_144 t_12_49 g1 ?_
      refine w_bipush dX12_voted_29 i2_7 ?_
      obtain ⟨g8, k⟩ := k
      refine w_iaload dX12_voted_31 g4 g8 ?_
      refine w_if_ne (pc' := 36) dX12_voted_32 rfl rfl ⟨fun c => ?_, fun c => ?_⟩
      · replace k := k.1 c
        refine w_aload_n dX12_voted_36 rfl ?_
        refine w_getR dX12_voted_37 f_12_60 t_12_18 g1 ?_
        refine w_iload_n dX12_voted_40 rfl ?_
        refine w_dup2 dX12_voted_41 rfl rfl ?_
        obtain ⟨g9, k⟩ := k
        obtain ⟨g10, k⟩ := k
        refine w_iaload dX12_voted_42 g9 g10 ?_
        refine w_iconst dX12_voted_43 i1_1 ?_
        refine w_aload_n dX12_voted_44 rfl ?_
        refine w_getR dX12_voted_45 f_12_144 t_12_49 g1 ?_
        refine w_iconst dX12_voted_48 i1_1 ?_
        obtain ⟨g11, k⟩ := k
        refine w_iaload dX12_voted_49 g4 g11 ?_
        refine w_ishl dX12_voted_50 ?_
        refine w_ior dX12_voted_51 ?_
        refine w_iastore dX12_voted_52 g9 g10 ?_
        refine w_aload_n dX12_voted_53 rfl ?_
        obtain ⟨g12, k⟩ := k
        refine w_getR dX12_voted_54 f_12_60 t_12_18 g12 ?_
        refine w_iload_n dX12_voted_57 rfl ?_
        obtain ⟨g13, k⟩ := k
        obtain ⟨g14, k⟩ := k
        refine w_iaload dX12_voted_58 g13 g14 ?_
        exact k
      · replace k := k.2 c
        exact w_return dX12_voted_35 rfl k
theorem bX12_voted_59 {d : Nat} {h : HP} {Q : Out → HP → Prop} {v0 : Nat} {v1 : Int32} {u2 : Option Value} {s0 : Int32} (k : WP d mX12_bits 0 [some (.int s0), none, none] [] h (KK d mX12_voted mX12_bits 59 [some (.ref v0), some (.int v1), u2] [] Q)) : WP (d + 1) mX12_voted 59 [some (.ref v0), some (.int v1), u2] [.int s0] h Q := by
  exact w_stat (as1 := [.int s0]) (as2 := [.int s0]) (rest := []) (lo2 := [some (.int s0), none, none]) dX12_voted_59 c_12_237 rfl rfl rfl (Nat.le_of_ble_eq_true rfl) (Nat.le_of_ble_eq_true rfl) rfl (Nat.le_of_ble_eq_true rfl) rfl k
theorem bX12_voted_62 {d : Nat} {h : HP} {Q : Out → HP → Prop} {v0 : Nat} {v1 : Int32} {u2 : Option Value} {s0 : Int32} (k : (1 < v0) ∧ ((hK h v0 = 12) ∧ (WP d mX12_most 0 [some (.ref v0)] [] h (KK d mX12_voted mX12_most 63 [some (.ref v0), some (.int v1), u2] [.int s0] Q)))) : WP (d + 1) mX12_voted 62 [some (.ref v0), some (.int v1), u2] [.int s0] h Q := by
  refine w_aload_n dX12_voted_62 rfl ?_
  obtain ⟨g1, k⟩ := k
  obtain ⟨g2, k⟩ := k
  exact w_virt (as1 := [.ref v0]) (as2 := [.ref v0]) (rest := [.int s0]) (lo2 := [some (.ref v0)]) dX12_voted_63 c_12_241 rfl rfl rfl (Nat.le_of_ble_eq_true rfl) (Nat.le_of_ble_eq_true rfl) rfl (Nat.le_of_ble_eq_true rfl) rfl rfl g1 g2 k
theorem bX12_voted_66 {d : Nat} {h : HP} {Q : Out → HP → Prop} {v0 : Nat} {v1 : Int32} {u2 : Option Value} {s0 : Int32} {s1 : Int32} (k : ((s1 < s0) → Q (.inl none) h) ∧ ((¬ (s1 < s0)) → (hK h v0 = 12) ∧ ((hK h (hR h 1211 v0) = 20) ∧ ((inA h (hR h 1211 v0) v1 = true) ∧ ((hK (sAI h (hR h 1211 v0) (v1).toNatClampNeg (2 : Int32)) v0 = 12) ∧ ((hK (sAI h (hR h 1211 v0) (v1).toNatClampNeg (2 : Int32)) (hR (sAI h (hR h 1211 v0) (v1).toNatClampNeg (2 : Int32)) 1223 v0) = 21) ∧ ((inA (sAI h (hR h 1211 v0) (v1).toNatClampNeg (2 : Int32)) (hR (sAI h (hR h 1211 v0) (v1).toNatClampNeg (2 : Int32)) 1223 v0) v1 = true) ∧ (WP d mX12_voted 85 [some (.ref v0), some (.int v1), some (.int (0 : Int32))] [] (sAI (sAI h (hR h 1211 v0) (v1).toNatClampNeg (2 : Int32)) (hR (sAI h (hR h 1211 v0) (v1).toNatClampNeg (2 : Int32)) 1223 v0) (v1).toNatClampNeg (0 : Int32)) Q)))))))) : WP d mX12_voted 66 [some (.ref v0), some (.int v1), u2] [.int s0, .int s1] h Q := by
  refine w_ic_lt (pc' := 134) dX12_voted_66 rfl rfl ⟨fun c => ?_, fun c => ?_⟩
  · replace k := k.1 c
    exact w_return dX12_voted_134 rfl k
  · replace k := k.2 c
    refine w_aload_n dX12_voted_69 rfl ?_
    obtain ⟨g1, k⟩ := k
    refine w_getR dX12_voted_70 f_12_39 t_12_11 g1 ?_
    refine w_iload_n dX12_voted_73 rfl ?_
    refine w_iconst dX12_voted_74 i1_2 ?_
    obtain ⟨g2, k⟩ := k
    obtain ⟨g3, k⟩ := k
    refine w_iastore dX12_voted_75 g2 g3 ?_
    refine w_aload_n dX12_voted_76 rfl ?_
    obtain ⟨g4, k⟩ := k
    refine w_getR dX12_voted_77 f_12_75 t_12_23 g4 ?_
    refine w_iload_n dX12_voted_80 rfl ?_
    refine w_iconst dX12_voted_81 i1_0 ?_
    obtain ⟨g5, k⟩ := k
    obtain ⟨g6, k⟩ := k
    refine w_bastore dX12_voted_82 g5 g6 rfl ?_
    refine w_iconst dX12_voted_83 i1_0 ?_
    refine w_istore_n (lo' := [some (.ref v0), some (.int v1), some (.int (0 : Int32))]) dX12_voted_84 (ltQ rfl) rfl ?_
    exact k
theorem bX12_voted_85 {d : Nat} {h : HP} {Q : Out → HP → Prop} {v0 : Nat} {v1 : Int32} {v2 : Int32} (k : (((5 : Int32) ≤ v2) → Q (.inl none) h) ∧ ((¬ ((5 : Int32) ≤ v2)) → (hK h v0 = 12) ∧ ((hK h (hR h 1212 v0) = 20) ∧ ((inA h (hR h 1212 v0) v1 = true) ∧ ((hK h (hR h 1219 v0) = 20) ∧ ((inA h (hR h 1219 v0) (((5 : Int32) * v1) + v2) = true) ∧ ((hK (sAI h (hR h 1219 v0) ((((5 : Int32) * v1) + v2)).toNatClampNeg (hAI h (hR h 1212 v0) (v1).toNatClampNeg)) v0 = 12) ∧ ((hK (sAI h (hR h 1219 v0) ((((5 : Int32) * v1) + v2)).toNatClampNeg (hAI h (hR h 1212 v0) (v1).toNatClampNeg)) (hR (sAI h (hR h 1219 v0) ((((5 : Int32) * v1) + v2)).toNatClampNeg (hAI h (hR h 1212 v0) (v1).toNatClampNeg)) 1220 v0) = 20) ∧ ((inA (sAI h (hR h 1219 v0) ((((5 : Int32) * v1) + v2)).toNatClampNeg (hAI h (hR h 1212 v0) (v1).toNatClampNeg)) (hR (sAI h (hR h 1219 v0) ((((5 : Int32) * v1) + v2)).toNatClampNeg (hAI h (hR h 1212 v0) (v1).toNatClampNeg)) 1220 v0) (((5 : Int32) * v1) + v2) = true) ∧ ((hK (sAI (sAI h (hR h 1219 v0) ((((5 : Int32) * v1) + v2)).toNatClampNeg (hAI h (hR h 1212 v0) (v1).toNatClampNeg)) (hR (sAI h (hR h 1219 v0) ((((5 : Int32) * v1) + v2)).toNatClampNeg (hAI h (hR h 1212 v0) (v1).toNatClampNeg)) 1220 v0) ((((5 : Int32) * v1) + v2)).toNatClampNeg (0 : Int32)) v0 = 12) ∧ (WP d mX12_voted 121 [some (.ref v0), some (.int v1), some (.int v2)] [.ref (hR (sAI (sAI h (hR h 1219 v0) ((((5 : Int32) * v1) + v2)).toNatClampNeg (hAI h (hR h 1212 v0) (v1).toNatClampNeg)) (hR (sAI h (hR h 1219 v0) ((((5 : Int32) * v1) + v2)).toNatClampNeg (hAI h (hR h 1212 v0) (v1).toNatClampNeg)) 1220 v0) ((((5 : Int32) * v1) + v2)).toNatClampNeg (0 : Int32)) 1221 v0)] (sAI (sAI h (hR h 1219 v0) ((((5 : Int32) * v1) + v2)).toNatClampNeg (hAI h (hR h 1212 v0) (v1).toNatClampNeg)) (hR (sAI h (hR h 1219 v0) ((((5 : Int32) * v1) + v2)).toNatClampNeg (hAI h (hR h 1212 v0) (v1).toNatClampNeg)) 1220 v0) ((((5 : Int32) * v1) + v2)).toNatClampNeg (0 : Int32)) Q))))))))))) : WP d mX12_voted 85 [some (.ref v0), some (.int v1), some (.int v2)] [] h Q := by
  refine w_iload_n dX12_voted_85 rfl ?_
  refine w_iconst dX12_voted_86 i1_5 ?_
  refine w_ic_ge (pc' := 134) dX12_voted_87 rfl rfl ⟨fun c => ?_, fun c => ?_⟩
  · replace k := k.1 c
    exact w_return dX12_voted_134 rfl k
  · replace k := k.2 c
    refine w_aload_n dX12_voted_90 rfl ?_
    obtain ⟨g1, k⟩ := k
    refine w_getR dX12_voted_91 f_12_63 t_12_19 g1 ?_
    refine w_iconst dX12_voted_94 i1_5 ?_
    refine w_iload_n dX12_voted_95 rfl ?_
    refine w_imul dX12_voted_96 ?_
    refine w_iload_n dX12_voted_97 rfl ?_
    refine w_iadd dX12_voted_98 ?_
    refine w_aload_n dX12_voted_99 rfl ?_
    refine w_getR dX12_voted_100 f_12_42 t_12_12 g1 ?_
    refine w_iload_n dX12_voted_103 rfl ?_
    obtain ⟨g2, k⟩ := k
    obtain ⟨g3, k⟩ := k
    refine w_iaload dX12_voted_104 g2 g3 ?_
    obtain ⟨g4, k⟩ := k
    obtain ⟨g5, k⟩ := k
    refine w_iastore dX12_voted_105 g4 g5 ?_
    refine w_aload_n dX12_voted_106 rfl ?_
    obtain ⟨g6, k⟩ := k
    refine w_getR dX12_voted_107 f_12_66 t_12_20 g6 ?_
    refine w_iconst dX12_voted_110 i1_5 ?_
    refine w_iload_n dX12_voted_111 rfl ?_
    refine w_imul dX12_voted_112 ?_
    refine w_iload_n dX12_voted_113 rfl ?_
    refine w_iadd dX12_voted_114 ?_
    refine w_iconst dX12_voted_115 i1_0 ?_
    obtain ⟨g7, k⟩ := k
    obtain ⟨g8, k⟩ := k
    refine w_iastore dX12_voted_116 g7 g8 ?_
    refine w_aload_n dX12_voted_117 rfl ?_
    obtain ⟨g9, k⟩ := k
    refine w_getR dX12_voted_118 f_12_69 t_12_21 g9 ?_
    exact k
theorem bX12_voted_121 {d : Nat} {h : HP} {Q : Out → HP → Prop} {v0 : Nat} {v1 : Int32} {v2 : Int32} {s0 : Nat} (k : (hK h s0 = 21) ∧ ((inA h s0 (((5 : Int32) * v1) + v2) = true) ∧ (WP d mX12_voted 85 [some (.ref v0), some (.int v1), some (.int (v2 + (1 : Int32)))] [] (sAI h s0 ((((5 : Int32) * v1) + v2)).toNatClampNeg (0 : Int32)) Q))) : WP d mX12_voted 121 [some (.ref v0), some (.int v1), some (.int v2)] [.ref s0] h Q := by
  refine w_iconst dX12_voted_121 i1_5 ?_
  refine w_iload_n dX12_voted_122 rfl ?_
  refine w_imul dX12_voted_123 ?_
  refine w_iload_n dX12_voted_124 rfl ?_
  refine w_iadd dX12_voted_125 ?_
  refine w_iconst dX12_voted_126 i1_0 ?_
  obtain ⟨g1, k⟩ := k
  obtain ⟨g2, k⟩ := k
  refine w_bastore dX12_voted_127 g1 g2 rfl ?_
  refine w_iinc (lo' := [some (.ref v0), some (.int v1), some (.int (v2 + (1 : Int32)))]) dX12_voted_128 rfl i1_1 rfl ?_
  refine w_goto (pc' := 85) dX12_voted_131 rfl rfl ?_
  exact k
theorem bX12_beat_0 {d : Nat} {h : HP} {Q : Out → HP → Prop} {v0 : Nat} {v1 : Int32} {u2 : Option Value} {u3 : Option Value} {u4 : Option Value} {u5 : Option Value} {u6 : Option Value} {u7 : Option Value} {u8 : Option Value} {u9 : Option Value} {u10 : Option Value} (k : (1 < v0) ∧ ((hK h v0 = 12) ∧ (WP d mX12_isMachine 0 [some (.ref v0), some (.int v1)] [] h (KK d mX12_beat mX12_isMachine 2 [some (.ref v0), some (.int v1), u2, u3, u4, u5, u6, u7, u8, u9, u10] [] Q)))) : WP (d + 1) mX12_beat 0 [some (.ref v0), some (.int v1), u2, u3, u4, u5, u6, u7, u8, u9, u10] [] h Q := by
  refine w_aload_n dX12_beat_0 rfl ?_
  refine w_iload_n dX12_beat_1 rfl ?_
  obtain ⟨g1, k⟩ := k
  obtain ⟨g2, k⟩ := k
  exact w_virt (as1 := [.int v1, .ref v0]) (as2 := [.ref v0, .int v1]) (rest := []) (lo2 := [some (.ref v0), some (.int v1)]) dX12_beat_2 c_12_181 rfl rfl rfl (Nat.le_of_ble_eq_true rfl) (Nat.le_of_ble_eq_true rfl) rfl (Nat.le_of_ble_eq_true rfl) rfl rfl g1 g2 k
theorem bX12_beat_5 {d : Nat} {h : HP} {Q : Out → HP → Prop} {v0 : Nat} {v1 : Int32} {u2 : Option Value} {u3 : Option Value} {u4 : Option Value} {u5 : Option Value} {u6 : Option Value} {u7 : Option Value} {u8 : Option Value} {u9 : Option Value} {u10 : Option Value} {s0 : Int32} (k : ((s0 = 0) → (1 < v0) ∧ ((hK h v0 = 12) ∧ (WP d mX12_goes 0 [some (.ref v0), some (.int s0), some (.int (0 : Int32)), some (.int (1 : Int32))] [] h (KK d mX12_beat mX12_goes 37 [some (.ref v0), some (.int v1), some (.int s0), u3, u4, u5, u6, u7, u8, u9, u10] [] Q)))) ∧ ((¬ (s0 = 0)) → (hK h v0 = 12) ∧ ((hK h (hR h 1205 v0) = 21) ∧ ((inA h (hR h 1205 v0) v1 = true) ∧ ((((hAI h (hR h 1205 v0) (v1).toNatClampNeg) = 0) → (1 < v0) ∧ (WP d mX12_goes 0 [some (.ref v0), some (.int s0), some (.int (0 : Int32)), some (.int (1 : Int32))] [] h (KK d mX12_beat mX12_goes 37 [some (.ref v0), some (.int v1), some (.int s0), u3, u4, u5, u6, u7, u8, u9, u10] [] Q))) ∧ ((¬ ((hAI h (hR h 1205 v0) (v1).toNatClampNeg) = 0)) → (hK h (hR h 1211 v0) = 20) ∧ ((inA h (hR h 1211 v0) v1 = true) ∧ (((¬ (hAI h (hR h 1211 v0) (v1).toNatClampNeg) = (2 : Int32)) → (1 < v0) ∧ (WP d mX12_goes 0 [some (.ref v0), some (.int s0), some (.int (0 : Int32)), some (.int (1 : Int32))] [] h (KK d mX12_beat mX12_goes 37 [some (.ref v0), some (.int v1), some (.int s0), u3, u4, u5, u6, u7, u8, u9, u10] [] Q))) ∧ ((¬ (¬ (hAI h (hR h 1211 v0) (v1).toNatClampNeg) = (2 : Int32))) → (1 < v0) ∧ (WP d mX12_goes 0 [some (.ref v0), some (.int s0), some (.int (1 : Int32)), some (.int (1 : Int32))] [] h (KK d mX12_beat mX12_goes 37 [some (.ref v0), some (.int v1), some (.int s0), u3, u4, u5, u6, u7, u8, u9, u10] [] Q))))))))))) : WP (d + 1) mX12_beat 5 [some (.ref v0), some (.int v1), u2, u3, u4, u5, u6, u7, u8, u9, u10] [.int s0] h Q := by
  refine w_istore_n (lo' := [some (.ref v0), some (.int v1), some (.int s0), u3, u4, u5, u6, u7, u8, u9, u10]) dX12_beat_5 (ltQ rfl) rfl ?_
  refine w_aload_n dX12_beat_6 rfl ?_
  refine w_iload_n dX12_beat_7 rfl ?_
  refine w_iload_n dX12_beat_8 rfl ?_
  refine w_if_eq (pc' := 35) dX12_beat_9 rfl rfl ⟨fun c => ?_, fun c => ?_⟩
  · replace k := k.1 c
    refine w_iconst dX12_beat_35 i1_0 ?_
    refine w_iconst dX12_beat_36 i1_1 ?_
    obtain ⟨g1, k⟩ := k
    obtain ⟨g2, k⟩ := k
    exact w_virt (as1 := [.int (1 : Int32), .int (0 : Int32), .int s0, .ref v0]) (as2 := [.ref v0, .int s0, .int (0 : Int32), .int (1 : Int32)]) (rest := []) (lo2 := [some (.ref v0), some (.int s0), some (.int (0 : Int32)), some (.int (1 : Int32))]) dX12_beat_37 c_12_173 rfl rfl rfl (Nat.le_of_ble_eq_true rfl) (Nat.le_of_ble_eq_true rfl) rfl (Nat.le_of_ble_eq_true rfl) rfl rfl g1 g2 k
  · replace k := k.2 c
    refine w_aload_n dX12_beat_12 rfl ?_
    obtain ⟨g3, k⟩ := k
    refine w_getR dX12_beat_13 f_12_18 t_12_5 g3 ?_
    refine w_iload_n dX12_beat_16 rfl ?_
    obtain ⟨g4, k⟩ := k
    obtain ⟨g5, k⟩ := k
    refine w_baload dX12_beat_17 g4 g5 ?_
    refine w_if_eq (pc' := 35) dX12_beat_18 rfl rfl ⟨fun c => ?_, fun c => ?_⟩
    · replace k := k.1 c
      refine w_iconst dX12_beat_35 i1_0 ?_
      refine w_iconst dX12_beat_36 i1_1 ?_
      obtain ⟨g6, k⟩ := k
      exact w_virt (as1 := [.int (1 : Int32), .int (0 : Int32), .int s0, .ref v0]) (as2 := [.ref v0, .int s0, .int (0 : Int32), .int (1 : Int32)]) (rest := []) (lo2 := [some (.ref v0), some (.int s0), some (.int (0 : Int32)), some (.int (1 : Int32))]) dX12_beat_37 c_12_173 rfl rfl rfl (Nat.le_of_ble_eq_true rfl) (Nat.le_of_ble_eq_true rfl) rfl (Nat.le_of_ble_eq_true rfl) rfl rfl g6 g3 k
    · replace k := k.2 c
      refine w_aload_n dX12_beat_21 rfl ?_
      refine w_getR dX12_beat_22 f_12_39 t_12_11 g3 ?_
      refine w_iload_n dX12_beat_25 rfl ?_
      obtain ⟨g7, k⟩ := k
      obtain ⟨g8, k⟩ := k
      refine w_iaload dX12_beat_26 g7 g8 ?_
      refine w_iconst dX12_beat_27 i1_2 ?_
      refine w_ic_ne (pc' := 35) dX12_beat_28 rfl rfl ⟨fun c => ?_, fun c => ?_⟩
      · replace k := k.1 c
        refine w_iconst dX12_beat_35 i1_0 ?_
        refine w_iconst dX12_beat_36 i1_1 ?_
        obtain ⟨g9, k⟩ := k
        exact w_virt (as1 := [.int (1 : Int32), .int (0 : Int32), .int s0, .ref v0]) (as2 := [.ref v0, .int s0, .int (0 : Int32), .int (1 : Int32)]) (rest := []) (lo2 := [some (.ref v0), some (.int s0), some (.int (0 : Int32)), some (.int (1 : Int32))]) dX12_beat_37 c_12_173 rfl rfl rfl (Nat.le_of_ble_eq_true rfl) (Nat.le_of_ble_eq_true rfl) rfl (Nat.le_of_ble_eq_true rfl) rfl rfl g9 g3 k
      · replace k := k.2 c
        refine w_iconst dX12_beat_31 i1_1 ?_
        refine w_goto (pc' := 36) dX12_beat_32 rfl rfl ?_
        refine w_iconst dX12_beat_36 i1_1 ?_
        obtain ⟨g10, k⟩ := k
        exact w_virt (as1 := [.int (1 : Int32), .int (1 : Int32), .int s0, .ref v0]) (as2 := [.ref v0, .int s0, .int (1 : Int32), .int (1 : Int32)]) (rest := []) (lo2 := [some (.ref v0), some (.int s0), some (.int (1 : Int32)), some (.int (1 : Int32))]) dX12_beat_37 c_12_173 rfl rfl rfl (Nat.le_of_ble_eq_true rfl) (Nat.le_of_ble_eq_true rfl) rfl (Nat.le_of_ble_eq_true rfl) rfl rfl g10 g3 k
theorem bX12_beat_40 {d : Nat} {h : HP} {Q : Out → HP → Prop} {v0 : Nat} {v1 : Int32} {v2 : Int32} {u3 : Option Value} {u4 : Option Value} {u5 : Option Value} {u6 : Option Value} {u7 : Option Value} {u8 : Option Value} {u9 : Option Value} {u10 : Option Value} {s0 : Int32} (k : ((¬ s0 = 0) → (hK h v0 = 12) ∧ (WP d mX12_beat 63 [some (.ref v0), some (.int v1), some (.int v2), some (.int v1), some (.int (0 : Int32)), some (.int (0 : Int32)), u6, u7, u8, u9, u10] [] (sI h 1204 v0 ((hI h 1204 v0) + (1 : Int32))) Q)) ∧ ((¬ (¬ s0 = 0)) → Q (.inl (some (.int (0 : Int32)))) h)) : WP d mX12_beat 40 [some (.ref v0), some (.int v1), some (.int v2), u3, u4, u5, u6, u7, u8, u9, u10] [.int s0] h Q := by
  refine w_if_ne (pc' := 45) dX12_beat_40 rfl rfl ⟨fun c => ?_, fun c => ?_⟩
  · replace k := k.1 c
    refine w_aload_n dX12_beat_45 rfl ?_
    refine w_dup dX12_beat_46 rfl ?_
    obtain ⟨g1, k⟩ := k
    refine w_getI dX12_beat_47 f_12_164 t_12_4 g1 ?_
    refine w_iconst dX12_beat_50 i1_1 ?_
    refine w_iadd dX12_beat_51 ?_
    refine w_putI dX12_beat_52 f_12_164 t_12_4 (pf_nf n_12_4) g1 ?_
    refine w_iload_n dX12_beat_55 rfl ?_
    refine w_istore_n (lo' := [some (.ref v0), some (.int v1), some (.int v2), some (.int v1), u4, u5, u6, u7, u8, u9, u10]) dX12_beat_56 (ltQ rfl) rfl ?_
    refine w_iconst dX12_beat_57 i1_0 ?_
    refine w_istore (lo' := [some (.ref v0), some (.int v1), some (.int v2), some (.int v1), some (.int (0 : Int32)), u5, u6, u7, u8, u9, u10]) dX12_beat_58 (ltQ rfl) rfl ?_
    refine w_iconst dX12_beat_60 i1_0 ?_
    refine w_istore (lo' := [some (.ref v0), some (.int v1), some (.int v2), some (.int v1), some (.int (0 : Int32)), some (.int (0 : Int32)), u6, u7, u8, u9, u10]) dX12_beat_61 (ltQ rfl) rfl ?_
    exact k
  · replace k := k.2 c
    refine w_iconst dX12_beat_43 i1_0 ?_
    exact w_ireturn dX12_beat_44 rfl k
theorem bX12_beat_63 {d : Nat} {h : HP} {Q : Out → HP → Prop} {v0 : Nat} {v1 : Int32} {v2 : Int32} {v3 : Int32} {v4 : Int32} {v5 : Int32} {u6 : Option Value} {u7 : Option Value} {u8 : Option Value} {u9 : Option Value} {u10 : Option Value} (k : (hK h v0 = 12) ∧ ((((hI h 1200 v0) ≤ v5) → (1 < v0) ∧ (WP d mX12_ends 0 [some (.ref v0), none] [] h (KK d mX12_beat mX12_ends 342 [some (.ref v0), some (.int v1), some (.int v2), some (.int v3), some (.int v4), some (.int v5), u6, u7, u8, u9, u10] [] Q))) ∧ ((¬ ((hI h 1200 v0) ≤ v5)) → ((v5 = v3) → WP (d + 1) mX12_beat 63 [some (.ref v0), some (.int v1), some (.int v2), some (.int v3), some (.int v4), some (.int (v5 + (1 : Int32))), u6, u7, u8, u9, u10] [] h Q) ∧ ((¬ (v5 = v3)) → (hK h (hR h 1219 v0) = 20) ∧ ((inA h (hR h 1219 v0) (((5 : Int32) * v3) + v5) = true) ∧ ((hK h (hR h 1212 v0) = 20) ∧ ((inA h (hR h 1212 v0) v3 = true) ∧ (((((hAI h (hR h 1212 v0) (v3).toNatClampNeg) - (hAI h (hR h 1219 v0) ((((5 : Int32) * v3) + v5)).toNatClampNeg)) ≤ (3 : Int32)) → (hK h (hR h 1209 v0) = 20) ∧ ((inA h (hR h 1209 v0) v3 = true) ∧ ((1 < v0) ∧ (WP d mX12_sends 0 [some (.ref v0), some (.int (2 : Int32)), some (.int v3), some (.int v5), some (.int (hAI h (hR h 1209 v0) (v3).toNatClampNeg)), none, none] [] h (KK d mX12_beat mX12_sends 130 [some (.ref v0), some (.int v1), some (.int v2), some (.int v3), some (.int v4), some (.int v5), some (.int (hAI h (hR h 1219 v0) ((((5 : Int32) * v3) + v5)).toNatClampNeg)), some (.int ((hAI h (hR h 1212 v0) (v3).toNatClampNeg) - (hAI h (hR h 1219 v0) ((((5 : Int32) * v3) + v5)).toNatClampNeg))), u8, u9, u10] [] Q))))) ∧ ((¬ (((hAI h (hR h 1212 v0) (v3).toNatClampNeg) - (hAI h (hR h 1219 v0) ((((5 : Int32) * v3) + v5)).toNatClampNeg)) ≤ (3 : Int32))) → (hK h (hR h 1209 v0) = 20) ∧ ((inA h (hR h 1209 v0) v3 = true) ∧ ((1 < v0) ∧ (WP d mX12_sends 0 [some (.ref v0), some (.int (2 : Int32)), some (.int v3), some (.int v5), some (.int (hAI h (hR h 1209 v0) (v3).toNatClampNeg)), none, none] [] h (KK d mX12_beat mX12_sends 130 [some (.ref v0), some (.int v1), some (.int v2), some (.int v3), some (.int v4), some (.int v5), some (.int (hAI h (hR h 1219 v0) ((((5 : Int32) * v3) + v5)).toNatClampNeg)), some (.int (3 : Int32)), u8, u9, u10] [] Q))))))))))))) : WP (d + 1) mX12_beat 63 [some (.ref v0), some (.int v1), some (.int v2), some (.int v3), some (.int v4), some (.int v5), u6, u7, u8, u9, u10] [] h Q := by
  refine w_iload dX12_beat_63 rfl ?_
  refine w_aload_n dX12_beat_65 rfl ?_
  obtain ⟨g1, k⟩ := k
  refine w_getI dX12_beat_66 f_12_7 t_12_0 g1 ?_
  refine w_ic_ge (pc' := 341) dX12_beat_69 rfl rfl ⟨fun c => ?_, fun c => ?_⟩
  · replace k := k.1 c
    refine w_aload_n dX12_beat_341 rfl ?_
    obtain ⟨g2, k⟩ := k
    exact w_virt (as1 := [.ref v0]) (as2 := [.ref v0]) (rest := []) (lo2 := [some (.ref v0), none]) dX12_beat_342 c_12_187 rfl rfl rfl (Nat.le_of_ble_eq_true rfl) (Nat.le_of_ble_eq_true rfl) rfl (Nat.le_of_ble_eq_true rfl) rfl rfl g2 g1 k
  · replace k := k.2 c
    refine w_iload dX12_beat_72 rfl ?_
    refine w_iload_n dX12_beat_74 rfl ?_
    refine w_ic_eq (pc' := 335) dX12_beat_75 rfl rfl ⟨fun c => ?_, fun c => ?_⟩
    · replace k := k.1 c
      refine w_iinc (lo' := [some (.ref v0), some (.int v1), some (.int v2), some (.int v3), some (.int v4), some (.int (v5 + (1 : Int32))), u6, u7, u8, u9, u10]) dX12_beat_335 rfl i1_1 rfl ?_
      refine w_goto (pc' := 63) dX12_beat_338 rfl rfl ?_
      exact k
    · replace k := k.2 c
      refine w_aload_n dX12_beat_78 rfl ?_
      refine w_getR dX12_beat_79 f_12_63 t_12_19 g1 ?_
      refine w_iconst dX12_beat_82 i1_5 ?_
      refine w_iload_n dX12_beat_83 rfl ?_
      refine w_imul dX12_beat_84 ?_
      refine w_iload dX12_beat_85 rfl ?_
      refine w_iadd dX12_beat_87 ?_
      obtain ⟨g3, k⟩ := k
      obtain ⟨g4, k⟩ := k
      refine w_iaload dX12_beat_88 g3 g4 ?_
      refine w_istore (lo' := [some (.ref v0), some (.int v1), some (.int v2), some (.int v3), some (.int v4), some (.int v5), some (.int (hAI h (hR h 1219 v0) ((((5 : Int32) * v3) + v5)).toNatClampNeg)), u7, u8, u9, u10]) dX12_beat_89 (ltQ rfl) rfl ?_
      refine w_aload_n dX12_beat_91 rfl ?_
      refine w_getR dX12_beat_92 f_12_42 t_12_12 g1 ?_
      refine w_iload_n dX12_beat_95 rfl ?_
      obtain ⟨g5, k⟩ := k
      obtain ⟨g6, k⟩ := k
      refine w_iaload dX12_beat_96 g5 g6 ?_
      refine w_iload dX12_beat_97 rfl ?_
      refine w_isub dX12_beat_99 ?_
      refine w_iconst dX12_beat_100 i1_3 ?_
      refine w_ic_le (pc' := 108) dX12_beat_101 rfl rfl ⟨fun c => ?_, fun c => ?_⟩
      · replace k := k.1 c
        refine w_aload_n dX12_beat_108 rfl ?_
        refine w_getR dX12_beat_109 f_12_42 t_12_12 g1 ?_
        refine w_iload_n dX12_beat_112 rfl ?_
        refine w_iaload dX12_beat_113 g5 g6 ?_
        refine w_iload dX12_beat_114 rfl ?_
        refine w_isub dX12_beat_116 ?_
        refine w_istore (lo' := [some (.ref v0), some (.int v1), some (.int v2), some (.int v3), some (.int v4), some (.int v5), some (.int (hAI h (hR h 1219 v0) ((((5 : Int32) * v3) + v5)).toNatClampNeg)), some (.int ((hAI h (hR h 1212 v0) (v3).toNatClampNeg) - (hAI h (hR h 1219 v0) ((((5 : Int32) * v3) + v5)).toNatClampNeg))), u8, u9, u10]) dX12_beat_117 (ltQ rfl) rfl ?_
        refine w_aload_n dX12_beat_119 rfl ?_
        refine w_iconst dX12_beat_120 i1_2 ?_
        refine w_iload_n dX12_beat_121 rfl ?_
        refine w_iload dX12_beat_122 rfl ?_
        refine w_aload_n dX12_beat_124 rfl ?_
        refine w_getR dX12_beat_125 f_12_32 t_12_9 g1 ?_
        refine w_iload_n dX12_beat_128 rfl ?_
        obtain ⟨g7, k⟩ := k
        obtain ⟨g8, k⟩ := k
        refine w_iaload dX12_beat_129 g7 g8 ?_
        obtain ⟨g9, k⟩ := k
        exact w_virt (as1 := [.int (hAI h (hR h 1209 v0) (v3).toNatClampNeg), .int v5, .int v3, .int (2 : Int32), .ref v0]) (as2 := [.ref v0, .int (2 : Int32), .int v3, .int v5, .int (hAI h (hR h 1209 v0) (v3).toNatClampNeg)]) (rest := []) (lo2 := [some (.ref v0), some (.int (2 : Int32)), some (.int v3), some (.int v5), some (.int (hAI h (hR h 1209 v0) (v3).toNatClampNeg)), none, none]) dX12_beat_130 c_12_229 rfl rfl rfl (Nat.le_of_ble_eq_true rfl) (Nat.le_of_ble_eq_true rfl) rfl (Nat.le_of_ble_eq_true rfl) rfl rfl g9 g1 k
      · replace k := k.2 c
        refine w_iconst dX12_beat_104 i1_3 ?_
        refine w_goto (pc' := 117) dX12_beat_105 rfl rfl ?_
        refine w_istore (lo' := [some (.ref v0), some (.int v1), some (.int v2), some (.int v3), some (.int v4), some (.int v5), some (.int (hAI h (hR h 1219 v0) ((((5 : Int32) * v3) + v5)).toNatClampNeg)), some (.int (3 : Int32)), u8, u9, u10]) dX12_beat_117 (ltQ rfl) rfl ?_
        refine w_aload_n dX12_beat_119 rfl ?_
        refine w_iconst dX12_beat_120 i1_2 ?_
        refine w_iload_n dX12_beat_121 rfl ?_
        refine w_iload dX12_beat_122 rfl ?_
        refine w_aload_n dX12_beat_124 rfl ?_
        refine w_getR dX12_beat_125 f_12_32 t_12_9 g1 ?_
        refine w_iload_n dX12_beat_128 rfl ?_
        obtain ⟨g10, k⟩ := k
        obtain ⟨g11, k⟩ := k
        refine w_iaload dX12_beat_129 g10 g11 ?_
        obtain ⟨g12, k⟩ := k
        exact w_virt (as1 := [.int (hAI h (hR h 1209 v0) (v3).toNatClampNeg), .int v5, .int v3, .int (2 : Int32), .ref v0]) (as2 := [.ref v0, .int (2 : Int32), .int v3, .int v5, .int (hAI h (hR h 1209 v0) (v3).toNatClampNeg)]) (rest := []) (lo2 := [some (.ref v0), some (.int (2 : Int32)), some (.int v3), some (.int v5), some (.int (hAI h (hR h 1209 v0) (v3).toNatClampNeg)), none, none]) dX12_beat_130 c_12_229 rfl rfl rfl (Nat.le_of_ble_eq_true rfl) (Nat.le_of_ble_eq_true rfl) rfl (Nat.le_of_ble_eq_true rfl) rfl rfl g12 g1 k
theorem bX12_beat_133 {d : Nat} {h : HP} {Q : Out → HP → Prop} {v0 : Nat} {v1 : Int32} {v2 : Int32} {v3 : Int32} {v4 : Int32} {v5 : Int32} {v6 : Int32} {v7 : Int32} {u8 : Option Value} {u9 : Option Value} {u10 : Option Value} {s0 : Int32} (k : ((s0 = (-1 : Int32)) → WP d mX12_beat 63 [some (.ref v0), some (.int v1), some (.int v2), some (.int v3), some (.int (v4 + v7)), some (.int (v5 + (1 : Int32))), some (.int v6), some (.int v7), some (.int s0), u9, u10] [] h Q) ∧ ((¬ (s0 = (-1 : Int32))) → (hK h v0 = 12) ∧ ((hK h (hR h 1207 v0) = 22) ∧ ((inA h (hR h 1207 v0) v3 = true) ∧ ((hK h (hR h 1238 v0) = 22) ∧ ((inA h (hR h 1238 v0) (s0 / (24 : Int32)) = true) ∧ ((hK (sAF h (hR h 1238 v0) ((s0 / (24 : Int32))).toNatClampNeg (hAF h (hR h 1207 v0) (v3).toNatClampNeg)) v0 = 12) ∧ ((hK (sAF h (hR h 1238 v0) ((s0 / (24 : Int32))).toNatClampNeg (hAF h (hR h 1207 v0) (v3).toNatClampNeg)) (hR (sAF h (hR h 1238 v0) ((s0 / (24 : Int32))).toNatClampNeg (hAF h (hR h 1207 v0) (v3).toNatClampNeg)) 1237 v0) = 20) ∧ ((inA (sAF h (hR h 1238 v0) ((s0 / (24 : Int32))).toNatClampNeg (hAF h (hR h 1207 v0) (v3).toNatClampNeg)) (hR (sAF h (hR h 1238 v0) ((s0 / (24 : Int32))).toNatClampNeg (hAF h (hR h 1207 v0) (v3).toNatClampNeg)) 1237 v0) (s0 + (4 : Int32)) = true) ∧ ((hK (sAI (sAF h (hR h 1238 v0) ((s0 / (24 : Int32))).toNatClampNeg (hAF h (hR h 1207 v0) (v3).toNatClampNeg)) (hR (sAF h (hR h 1238 v0) ((s0 / (24 : Int32))).toNatClampNeg (hAF h (hR h 1207 v0) (v3).toNatClampNeg)) 1237 v0) ((s0 + (4 : Int32))).toNatClampNeg v6) v0 = 12) ∧ (WP d mX12_beat 179 [some (.ref v0), some (.int v1), some (.int v2), some (.int v3), some (.int (v4 + v7)), some (.int v5), some (.int v6), some (.int v7), some (.int s0), u9, u10] [.ref (hR (sAI (sAF h (hR h 1238 v0) ((s0 / (24 : Int32))).toNatClampNeg (hAF h (hR h 1207 v0) (v3).toNatClampNeg)) (hR (sAF h (hR h 1238 v0) ((s0 / (24 : Int32))).toNatClampNeg (hAF h (hR h 1207 v0) (v3).toNatClampNeg)) 1237 v0) ((s0 + (4 : Int32))).toNatClampNeg v6) 1237 v0)] (sAI (sAF h (hR h 1238 v0) ((s0 / (24 : Int32))).toNatClampNeg (hAF h (hR h 1207 v0) (v3).toNatClampNeg)) (hR (sAF h (hR h 1238 v0) ((s0 / (24 : Int32))).toNatClampNeg (hAF h (hR h 1207 v0) (v3).toNatClampNeg)) 1237 v0) ((s0 + (4 : Int32))).toNatClampNeg v6) Q))))))))))) : WP d mX12_beat 133 [some (.ref v0), some (.int v1), some (.int v2), some (.int v3), some (.int v4), some (.int v5), some (.int v6), some (.int v7), u8, u9, u10] [.int s0] h Q := by
  refine w_istore (lo' := [some (.ref v0), some (.int v1), some (.int v2), some (.int v3), some (.int v4), some (.int v5), some (.int v6), some (.int v7), some (.int s0), u9, u10]) dX12_beat_133 (ltQ rfl) rfl ?_
  refine w_iload dX12_beat_135 rfl ?_
  refine w_iload dX12_beat_137 rfl ?_
  refine w_iadd dX12_beat_139 ?_
  refine w_istore (lo' := [some (.ref v0), some (.int v1), some (.int v2), some (.int v3), some (.int (v4 + v7)), some (.int v5), some (.int v6), some (.int v7), some (.int s0), u9, u10]) dX12_beat_140 (ltQ rfl) rfl ?_
  refine w_iload dX12_beat_142 rfl ?_
  refine w_iconst dX12_beat_144 i1_m1 ?_
  refine w_ic_eq (pc' := 335) dX12_beat_145 rfl rfl ⟨fun c => ?_, fun c => ?_⟩
  · replace k := k.1 c
    refine w_iinc (lo' := [some (.ref v0), some (.int v1), some (.int v2), some (.int v3), some (.int (v4 + v7)), some (.int (v5 + (1 : Int32))), some (.int v6), some (.int v7), some (.int s0), u9, u10]) dX12_beat_335 rfl i1_1 rfl ?_
    refine w_goto (pc' := 63) dX12_beat_338 rfl rfl ?_
    exact k
  · replace k := k.2 c
    refine w_aload_n dX12_beat_148 rfl ?_
    obtain ⟨g1, k⟩ := k
    refine w_getR dX12_beat_149 f_12_120 t_12_38 g1 ?_
    refine w_iload dX12_beat_152 rfl ?_
    refine w_bipush dX12_beat_154 i2_24 ?_
    refine w_idiv dX12_beat_156 (by decide) ?_
    refine w_aload_n dX12_beat_157 rfl ?_
    refine w_getR dX12_beat_158 f_12_25 t_12_7 g1 ?_
    refine w_iload_n dX12_beat_161 rfl ?_
    obtain ⟨g2, k⟩ := k
    obtain ⟨g3, k⟩ := k
    refine w_faload dX12_beat_162 g2 g3 ?_
    obtain ⟨g4, k⟩ := k
    obtain ⟨g5, k⟩ := k
    refine w_fastore dX12_beat_163 g4 g5 ?_
    refine w_aload_n dX12_beat_164 rfl ?_
    obtain ⟨g6, k⟩ := k
    refine w_getR dX12_beat_165 f_12_117 t_12_37 g6 ?_
    refine w_iload dX12_beat_168 rfl ?_
    refine w_iconst dX12_beat_170 i1_4 ?_
    refine w_iadd dX12_beat_171 ?_
    refine w_iload dX12_beat_172 rfl ?_
    obtain ⟨g7, k⟩ := k
    obtain ⟨g8, k⟩ := k
    refine w_iastore dX12_beat_174 g7 g8 ?_
    refine w_aload_n dX12_beat_175 rfl ?_
    obtain ⟨g9, k⟩ := k
    refine w_getR dX12_beat_176 f_12_117 t_12_37 g9 ?_
    exact k
theorem bX12_beat_179 {d : Nat} {h : HP} {Q : Out → HP → Prop} {v0 : Nat} {v1 : Int32} {v2 : Int32} {v3 : Int32} {v4 : Int32} {v5 : Int32} {v6 : Int32} {v7 : Int32} {v8 : Int32} {u9 : Option Value} {u10 : Option Value} {s0 : Nat} (k : (1 < v0) ∧ ((hK h v0 = 12) ∧ (WP d mX12_termAt 0 [some (.ref v0), some (.int v3), some (.int v6)] [] h (KK d mX12_beat mX12_termAt 187 [some (.ref v0), some (.int v1), some (.int v2), some (.int v3), some (.int v4), some (.int v5), some (.int v6), some (.int v7), some (.int v8), u9, u10] [.int (v8 + (5 : Int32)), .ref s0] Q)))) : WP (d + 1) mX12_beat 179 [some (.ref v0), some (.int v1), some (.int v2), some (.int v3), some (.int v4), some (.int v5), some (.int v6), some (.int v7), some (.int v8), u9, u10] [.ref s0] h Q := by
  refine w_iload dX12_beat_179 rfl ?_
  refine w_iconst dX12_beat_181 i1_5 ?_
  refine w_iadd dX12_beat_182 ?_
  refine w_aload_n dX12_beat_183 rfl ?_
  refine w_iload_n dX12_beat_184 rfl ?_
  refine w_iload dX12_beat_185 rfl ?_
  obtain ⟨g1, k⟩ := k
  obtain ⟨g2, k⟩ := k
  exact w_virt (as1 := [.int v6, .int v3, .ref v0]) (as2 := [.ref v0, .int v3, .int v6]) (rest := [.int (v8 + (5 : Int32)), .ref s0]) (lo2 := [some (.ref v0), some (.int v3), some (.int v6)]) dX12_beat_187 c_12_233 rfl rfl rfl (Nat.le_of_ble_eq_true rfl) (Nat.le_of_ble_eq_true rfl) rfl (Nat.le_of_ble_eq_true rfl) rfl rfl g1 g2 k
theorem bX12_beat_190 {d : Nat} {h : HP} {Q : Out → HP → Prop} {v0 : Nat} {v1 : Int32} {v2 : Int32} {v3 : Int32} {v4 : Int32} {v5 : Int32} {v6 : Int32} {v7 : Int32} {v8 : Int32} {u9 : Option Value} {u10 : Option Value} {s0 : Int32} {s1 : Int32} {s2 : Nat} (k : (hK h s2 = 20) ∧ ((inA h s2 s1 = true) ∧ ((hK (sAI h s2 (s1).toNatClampNeg s0) v0 = 12) ∧ ((hK (sAI h s2 (s1).toNatClampNeg s0) (hR (sAI h s2 (s1).toNatClampNeg s0) 1213 v0) = 20) ∧ ((inA (sAI h s2 (s1).toNatClampNeg s0) (hR (sAI h s2 (s1).toNatClampNeg s0) 1213 v0) v3 = true) ∧ ((hK (sAI h s2 (s1).toNatClampNeg s0) (hR (sAI h s2 (s1).toNatClampNeg s0) 1237 v0) = 20) ∧ ((inA (sAI h s2 (s1).toNatClampNeg s0) (hR (sAI h s2 (s1).toNatClampNeg s0) 1237 v0) (v8 + (6 : Int32)) = true) ∧ ((hK (sAI (sAI h s2 (s1).toNatClampNeg s0) (hR (sAI h s2 (s1).toNatClampNeg s0) 1237 v0) ((v8 + (6 : Int32))).toNatClampNeg (hAI (sAI h s2 (s1).toNatClampNeg s0) (hR (sAI h s2 (s1).toNatClampNeg s0) 1213 v0) (v3).toNatClampNeg)) v0 = 12) ∧ ((hK (sAI (sAI h s2 (s1).toNatClampNeg s0) (hR (sAI h s2 (s1).toNatClampNeg s0) 1237 v0) ((v8 + (6 : Int32))).toNatClampNeg (hAI (sAI h s2 (s1).toNatClampNeg s0) (hR (sAI h s2 (s1).toNatClampNeg s0) 1213 v0) (v3).toNatClampNeg)) (hR (sAI (sAI h s2 (s1).toNatClampNeg s0) (hR (sAI h s2 (s1).toNatClampNeg s0) 1237 v0) ((v8 + (6 : Int32))).toNatClampNeg (hAI (sAI h s2 (s1).toNatClampNeg s0) (hR (sAI h s2 (s1).toNatClampNeg s0) 1213 v0) (v3).toNatClampNeg)) 1237 v0) = 20) ∧ ((inA (sAI (sAI h s2 (s1).toNatClampNeg s0) (hR (sAI h s2 (s1).toNatClampNeg s0) 1237 v0) ((v8 + (6 : Int32))).toNatClampNeg (hAI (sAI h s2 (s1).toNatClampNeg s0) (hR (sAI h s2 (s1).toNatClampNeg s0) 1213 v0) (v3).toNatClampNeg)) (hR (sAI (sAI h s2 (s1).toNatClampNeg s0) (hR (sAI h s2 (s1).toNatClampNeg s0) 1237 v0) ((v8 + (6 : Int32))).toNatClampNeg (hAI (sAI h s2 (s1).toNatClampNeg s0) (hR (sAI h s2 (s1).toNatClampNeg s0) 1213 v0) (v3).toNatClampNeg)) 1237 v0) (v8 + (8 : Int32)) = true) ∧ (WP d mX12_beat 219 [some (.ref v0), some (.int v1), some (.int v2), some (.int v3), some (.int v4), some (.int v5), some (.int v6), some (.int v7), some (.int v8), u9, u10] [] (sAI (sAI (sAI h s2 (s1).toNatClampNeg s0) (hR (sAI h s2 (s1).toNatClampNeg s0) 1237 v0) ((v8 + (6 : Int32))).toNatClampNeg (hAI (sAI h s2 (s1).toNatClampNeg s0) (hR (sAI h s2 (s1).toNatClampNeg s0) 1213 v0) (v3).toNatClampNeg)) (hR (sAI (sAI h s2 (s1).toNatClampNeg s0) (hR (sAI h s2 (s1).toNatClampNeg s0) 1237 v0) ((v8 + (6 : Int32))).toNatClampNeg (hAI (sAI h s2 (s1).toNatClampNeg s0) (hR (sAI h s2 (s1).toNatClampNeg s0) 1213 v0) (v3).toNatClampNeg)) 1237 v0) ((v8 + (8 : Int32))).toNatClampNeg v7) Q))))))))))) : WP d mX12_beat 190 [some (.ref v0), some (.int v1), some (.int v2), some (.int v3), some (.int v4), some (.int v5), some (.int v6), some (.int v7), some (.int v8), u9, u10] [.int s0, .int s1, .ref s2] h Q := by
  obtain ⟨g1, k⟩ := k
  obtain ⟨g2, k⟩ := k
  refine w_iastore dX12_beat_190 g1 g2 ?_
  refine w_aload_n dX12_beat_191 rfl ?_
  obtain ⟨g3, k⟩ := k
  refine w_getR dX12_beat_192 f_12_117 t_12_37 g3 ?_
  refine w_iload dX12_beat_195 rfl ?_
  refine w_bipush dX12_beat_197 i2_6 ?_
  refine w_iadd dX12_beat_199 ?_
  refine w_aload_n dX12_beat_200 rfl ?_
  refine w_getR dX12_beat_201 f_12_45 t_12_13 g3 ?_
  refine w_iload_n dX12_beat_204 rfl ?_
  obtain ⟨g4, k⟩ := k
  obtain ⟨g5, k⟩ := k
  refine w_iaload dX12_beat_205 g4 g5 ?_
  obtain ⟨g6, k⟩ := k
  obtain ⟨g7, k⟩ := k
  refine w_iastore dX12_beat_206 g6 g7 ?_
  refine w_aload_n dX12_beat_207 rfl ?_
  obtain ⟨g8, k⟩ := k
  refine w_getR dX12_beat_208 f_12_117 t_12_37 g8 ?_
  refine w_iload dX12_beat_211 rfl ?_
  refine w_bipush dX12_beat_213 i2_8 ?_
  refine w_iadd dX12_beat_215 ?_
  refine w_iload dX12_beat_216 rfl ?_
  obtain ⟨g9, k⟩ := k
  obtain ⟨g10, k⟩ := k
  refine w_iastore dX12_beat_218 g9 g10 ?_
  exact k
theorem bX12_beat_219 {d : Nat} {h : HP} {Q : Out → HP → Prop} {v0 : Nat} {v1 : Int32} {v2 : Int32} {v3 : Int32} {v4 : Int32} {v5 : Int32} {v6 : Int32} {v7 : Int32} {v8 : Int32} {u9 : Option Value} {u10 : Option Value} (k : WP d mX12_beat 222 [some (.ref v0), some (.int v1), some (.int v2), some (.int v3), some (.int v4), some (.int v5), some (.int v6), some (.int v7), some (.int v8), some (.int (0 : Int32)), u10] [] h Q) : WP d mX12_beat 219 [some (.ref v0), some (.int v1), some (.int v2), some (.int v3), some (.int v4), some (.int v5), some (.int v6), some (.int v7), some (.int v8), u9, u10] [] h Q := by
  refine w_iconst dX12_beat_219 i1_0 ?_
  refine w_istore (lo' := [some (.ref v0), some (.int v1), some (.int v2), some (.int v3), some (.int v4), some (.int v5), some (.int v6), some (.int v7), some (.int v8), some (.int (0 : Int32)), u10]) dX12_beat_220 (ltQ rfl) rfl ?_
  exact k
theorem bX12_beat_222 {d : Nat} {h : HP} {Q : Out → HP → Prop} {v0 : Nat} {v1 : Int32} {v2 : Int32} {v3 : Int32} {v4 : Int32} {v5 : Int32} {v6 : Int32} {v7 : Int32} {v8 : Int32} {v9 : Int32} {u10 : Option Value} (k : ((v7 ≤ v9) → WP d mX12_beat 63 [some (.ref v0), some (.int v1), some (.int v2), some (.int v3), some (.int v4), some (.int (v5 + (1 : Int32))), some (.int v6), some (.int v7), some (.int v8), some (.int v9), u10] [] h Q) ∧ ((¬ (v7 ≤ v9)) → (hK h v0 = 12) ∧ ((hK h (hR h 1214 v0) = 20) ∧ ((inA h (hR h 1214 v0) ((((30 : Int32) * v3) + v6) + v9) = true) ∧ ((hK h (hR h 1237 v0) = 20) ∧ ((inA h (hR h 1237 v0) ((v8 + (10 : Int32)) + ((4 : Int32) * v9)) = true) ∧ ((hK (sAI h (hR h 1237 v0) (((v8 + (10 : Int32)) + ((4 : Int32) * v9))).toNatClampNeg (hAI h (hR h 1214 v0) (((((30 : Int32) * v3) + v6) + v9)).toNatClampNeg)) v0 = 12) ∧ (WP d mX12_beat 281 [some (.ref v0), some (.int v1), some (.int v2), some (.int v3), some (.int v4), some (.int v5), some (.int v6), some (.int v7), some (.int v8), some (.int v9), some (.int ((((30 : Int32) * v3) + v6) + v9))] [.ref (hR (sAI h (hR h 1237 v0) (((v8 + (10 : Int32)) + ((4 : Int32) * v9))).toNatClampNeg (hAI h (hR h 1214 v0) (((((30 : Int32) * v3) + v6) + v9)).toNatClampNeg)) 1215 v0), .int ((v8 + (11 : Int32)) + ((4 : Int32) * v9)), .ref (hR (sAI h (hR h 1237 v0) (((v8 + (10 : Int32)) + ((4 : Int32) * v9))).toNatClampNeg (hAI h (hR h 1214 v0) (((((30 : Int32) * v3) + v6) + v9)).toNatClampNeg)) 1237 v0)] (sAI h (hR h 1237 v0) (((v8 + (10 : Int32)) + ((4 : Int32) * v9))).toNatClampNeg (hAI h (hR h 1214 v0) (((((30 : Int32) * v3) + v6) + v9)).toNatClampNeg)) Q)))))))) : WP d mX12_beat 222 [some (.ref v0), some (.int v1), some (.int v2), some (.int v3), some (.int v4), some (.int v5), some (.int v6), some (.int v7), some (.int v8), some (.int v9), u10] [] h Q := by
  refine w_iload dX12_beat_222 rfl ?_
  refine w_iload dX12_beat_224 rfl ?_
  refine w_ic_ge (pc' := 335) dX12_beat_226 rfl rfl ⟨fun c => ?_, fun c => ?_⟩
  · replace k := k.1 c
    refine w_iinc (lo' := [some (.ref v0), some (.int v1), some (.int v2), some (.int v3), some (.int v4), some (.int (v5 + (1 : Int32))), some (.int v6), some (.int v7), some (.int v8), some (.int v9), u10]) dX12_beat_335 rfl i1_1 rfl ?_
    refine w_goto (pc' := 63) dX12_beat_338 rfl rfl ?_
    exact k
  · replace k := k.2 c
    refine w_bipush dX12_beat_229 i2_30 ?_
    refine w_iload_n dX12_beat_231 rfl ?_
    refine w_imul dX12_beat_232 ?_
    refine w_iload dX12_beat_233 rfl ?_
    refine w_iadd dX12_beat_235 ?_
    refine w_iload dX12_beat_236 rfl ?_
    refine w_iadd dX12_beat_238 ?_
    refine w_istore (lo' := [some (.ref v0), some (.int v1), some (.int v2), some (.int v3), some (.int v4), some (.int v5), some (.int v6), some (.int v7), some (.int v8), some (.int v9), some (.int ((((30 : Int32) * v3) + v6) + v9))]) dX12_beat_239 (ltQ rfl) rfl ?_
    refine w_aload_n dX12_beat_241 rfl ?_
    obtain ⟨g1, k⟩ := k
    refine w_getR dX12_beat_242 f_12_117 t_12_37 g1 ?_
    refine w_iload dX12_beat_245 rfl ?_
    refine w_bipush dX12_beat_247 i2_10 ?_
    refine w_iadd dX12_beat_249 ?_
    refine w_iconst dX12_beat_250 i1_4 ?_
    refine w_iload dX12_beat_251 rfl ?_
    refine w_imul dX12_beat_253 ?_
    refine w_iadd dX12_beat_254 ?_
    refine w_aload_n dX12_beat_255 rfl ?_
    refine w_getR dX12_beat_256 f_12_48 t_12_14 g1 ?_
    refine w_iload dX12_beat_259 rfl ?_
    obtain ⟨g2, k⟩ := k
    obtain ⟨g3, k⟩ := k
    refine w_iaload dX12_beat_261 g2 g3 ?_
    obtain ⟨g4, k⟩ := k
    obtain ⟨g5, k⟩ := k
    refine w_iastore dX12_beat_262 g4 g5 ?_
    refine w_aload_n dX12_beat_263 rfl ?_
    obtain ⟨g6, k⟩ := k
    refine w_getR dX12_beat_264 f_12_117 t_12_37 g6 ?_
    refine w_iload dX12_beat_267 rfl ?_
    refine w_bipush dX12_beat_269 i2_11 ?_
    refine w_iadd dX12_beat_271 ?_
    refine w_iconst dX12_beat_272 i1_4 ?_
    refine w_iload dX12_beat_273 rfl ?_
    refine w_imul dX12_beat_275 ?_
    refine w_iadd dX12_beat_276 ?_
    refine w_aload_n dX12_beat_277 rfl ?_
    refine w_getR dX12_beat_278 f_12_51 t_12_15 g6 ?_
    exact k
theorem bX12_beat_281 {d : Nat} {h : HP} {Q : Out → HP → Prop} {v0 : Nat} {v1 : Int32} {v2 : Int32} {v3 : Int32} {v4 : Int32} {v5 : Int32} {v6 : Int32} {v7 : Int32} {v8 : Int32} {v9 : Int32} {v10 : Int32} {s0 : Nat} {s1 : Int32} {s2 : Nat} (k : (hK h s0 = 20) ∧ ((inA h s0 v10 = true) ∧ ((hK h s2 = 20) ∧ ((inA h s2 s1 = true) ∧ ((hK (sAI h s2 (s1).toNatClampNeg (hAI h s0 (v10).toNatClampNeg)) v0 = 12) ∧ ((hK (sAI h s2 (s1).toNatClampNeg (hAI h s0 (v10).toNatClampNeg)) (hR (sAI h s2 (s1).toNatClampNeg (hAI h s0 (v10).toNatClampNeg)) 1216 v0) = 20) ∧ ((inA (sAI h s2 (s1).toNatClampNeg (hAI h s0 (v10).toNatClampNeg)) (hR (sAI h s2 (s1).toNatClampNeg (hAI h s0 (v10).toNatClampNeg)) 1216 v0) v10 = true) ∧ ((hK (sAI h s2 (s1).toNatClampNeg (hAI h s0 (v10).toNatClampNeg)) (hR (sAI h s2 (s1).toNatClampNeg (hAI h s0 (v10).toNatClampNeg)) 1237 v0) = 20) ∧ ((inA (sAI h s2 (s1).toNatClampNeg (hAI h s0 (v10).toNatClampNeg)) (hR (sAI h s2 (s1).toNatClampNeg (hAI h s0 (v10).toNatClampNeg)) 1237 v0) ((v8 + (12 : Int32)) + ((4 : Int32) * v9)) = true) ∧ ((hK (sAI (sAI h s2 (s1).toNatClampNeg (hAI h s0 (v10).toNatClampNeg)) (hR (sAI h s2 (s1).toNatClampNeg (hAI h s0 (v10).toNatClampNeg)) 1237 v0) (((v8 + (12 : Int32)) + ((4 : Int32) * v9))).toNatClampNeg (hAI (sAI h s2 (s1).toNatClampNeg (hAI h s0 (v10).toNatClampNeg)) (hR (sAI h s2 (s1).toNatClampNeg (hAI h s0 (v10).toNatClampNeg)) 1216 v0) (v10).toNatClampNeg)) v0 = 12) ∧ (WP d mX12_beat 311 [some (.ref v0), some (.int v1), some (.int v2), some (.int v3), some (.int v4), some (.int v5), some (.int v6), some (.int v7), some (.int v8), some (.int v9), some (.int v10)] [.ref (hR (sAI (sAI h s2 (s1).toNatClampNeg (hAI h s0 (v10).toNatClampNeg)) (hR (sAI h s2 (s1).toNatClampNeg (hAI h s0 (v10).toNatClampNeg)) 1237 v0) (((v8 + (12 : Int32)) + ((4 : Int32) * v9))).toNatClampNeg (hAI (sAI h s2 (s1).toNatClampNeg (hAI h s0 (v10).toNatClampNeg)) (hR (sAI h s2 (s1).toNatClampNeg (hAI h s0 (v10).toNatClampNeg)) 1216 v0) (v10).toNatClampNeg)) 1237 v0)] (sAI (sAI h s2 (s1).toNatClampNeg (hAI h s0 (v10).toNatClampNeg)) (hR (sAI h s2 (s1).toNatClampNeg (hAI h s0 (v10).toNatClampNeg)) 1237 v0) (((v8 + (12 : Int32)) + ((4 : Int32) * v9))).toNatClampNeg (hAI (sAI h s2 (s1).toNatClampNeg (hAI h s0 (v10).toNatClampNeg)) (hR (sAI h s2 (s1).toNatClampNeg (hAI h s0 (v10).toNatClampNeg)) 1216 v0) (v10).toNatClampNeg)) Q))))))))))) : WP d mX12_beat 281 [some (.ref v0), some (.int v1), some (.int v2), some (.int v3), some (.int v4), some (.int v5), some (.int v6), some (.int v7), some (.int v8), some (.int v9), some (.int v10)] [.ref s0, .int s1, .ref s2] h Q := by
  refine w_iload dX12_beat_281 rfl ?_
  obtain ⟨g1, k⟩ := k
  obtain ⟨g2, k⟩ := k
  refine w_iaload dX12_beat_283 g1 g2 ?_
  obtain ⟨g3, k⟩ := k
  obtain ⟨g4, k⟩ := k
  refine w_iastore dX12_beat_284 g3 g4 ?_
  refine w_aload_n dX12_beat_285 rfl ?_
  obtain ⟨g5, k⟩ := k
  refine w_getR dX12_beat_286 f_12_117 t_12_37 g5 ?_
  refine w_iload dX12_beat_289 rfl ?_
  refine w_bipush dX12_beat_291 i2_12 ?_
  refine w_iadd dX12_beat_293 ?_
  refine w_iconst dX12_beat_294 i1_4 ?_
  refine w_iload dX12_beat_295 rfl ?_
  refine w_imul dX12_beat_297 ?_
  refine w_iadd dX12_beat_298 ?_
  refine w_aload_n dX12_beat_299 rfl ?_
  refine w_getR dX12_beat_300 f_12_54 t_12_16 g5 ?_
  refine w_iload dX12_beat_303 rfl ?_
  obtain ⟨g6, k⟩ := k
  obtain ⟨g7, k⟩ := k
  refine w_iaload dX12_beat_305 g6 g7 ?_
  obtain ⟨g8, k⟩ := k
  obtain ⟨g9, k⟩ := k
  refine w_iastore dX12_beat_306 g8 g9 ?_
  refine w_aload_n dX12_beat_307 rfl ?_
  obtain ⟨g10, k⟩ := k
  refine w_getR dX12_beat_308 f_12_117 t_12_37 g10 ?_
  exact k
theorem bX12_beat_311 {d : Nat} {h : HP} {Q : Out → HP → Prop} {v0 : Nat} {v1 : Int32} {v2 : Int32} {v3 : Int32} {v4 : Int32} {v5 : Int32} {v6 : Int32} {v7 : Int32} {v8 : Int32} {v9 : Int32} {v10 : Int32} {s0 : Nat} (k : (hK h v0 = 12) ∧ ((hK h (hR h 1217 v0) = 20) ∧ ((inA h (hR h 1217 v0) v10 = true) ∧ ((hK h s0 = 20) ∧ ((inA h s0 ((v8 + (13 : Int32)) + ((4 : Int32) * v9)) = true) ∧ (WP d mX12_beat 222 [some (.ref v0), some (.int v1), some (.int v2), some (.int v3), some (.int v4), some (.int v5), some (.int v6), some (.int v7), some (.int v8), some (.int (v9 + (1 : Int32))), some (.int v10)] [] (sAI h s0 (((v8 + (13 : Int32)) + ((4 : Int32) * v9))).toNatClampNeg (hAI h (hR h 1217 v0) (v10).toNatClampNeg)) Q)))))) : WP d mX12_beat 311 [some (.ref v0), some (.int v1), some (.int v2), some (.int v3), some (.int v4), some (.int v5), some (.int v6), some (.int v7), some (.int v8), some (.int v9), some (.int v10)] [.ref s0] h Q := by
  refine w_iload dX12_beat_311 rfl ?_
  refine w_bipush dX12_beat_313 i2_13 ?_
  refine w_iadd dX12_beat_315 ?_
  refine w_iconst dX12_beat_316 i1_4 ?_
  refine w_iload dX12_beat_317 rfl ?_
  refine w_imul dX12_beat_319 ?_
  refine w_iadd dX12_beat_320 ?_
  refine w_aload_n dX12_beat_321 rfl ?_
  obtain ⟨g1, k⟩ := k
  refine w_getR dX12_beat_322 f_12_57 t_12_17 g1 ?_
  refine w_iload dX12_beat_325 rfl ?_
  obtain ⟨g2, k⟩ := k
  obtain ⟨g3, k⟩ := k
  refine w_iaload dX12_beat_327 g2 g3 ?_
  obtain ⟨g4, k⟩ := k
  obtain ⟨g5, k⟩ := k
  refine w_iastore dX12_beat_328 g4 g5 ?_
  refine w_iinc (lo' := [some (.ref v0), some (.int v1), some (.int v2), some (.int v3), some (.int v4), some (.int v5), some (.int v6), some (.int v7), some (.int v8), some (.int (v9 + (1 : Int32))), some (.int v10)]) dX12_beat_329 rfl i1_1 rfl ?_
  refine w_goto (pc' := 222) dX12_beat_332 rfl rfl ?_
  exact k
theorem bX12_beat_345 {d : Nat} {h : HP} {Q : Out → HP → Prop} {v0 : Nat} {v1 : Int32} {v2 : Int32} {v3 : Int32} {v4 : Int32} {v5 : Int32} {u6 : Option Value} {u7 : Option Value} {u8 : Option Value} {u9 : Option Value} {u10 : Option Value} (k : Q (.inl (some (.int v4))) h) : WP d mX12_beat 345 [some (.ref v0), some (.int v1), some (.int v2), some (.int v3), some (.int v4), some (.int v5), u6, u7, u8, u9, u10] [] h Q := by
  refine w_iload dX12_beat_345 rfl ?_
  exact w_ireturn dX12_beat_347 rfl k
