/-! ===== segments: what the program does from a place to the next ===== -/
theorem bX12_asked_0 {d : Nat} {h : HP} {Q : Out → HP → Prop} {v0 : Nat} {v1 : Int32} {u2 : Option Value} {u3 : Option Value} {u4 : Option Value} {u5 : Option Value} {u6 : Option Value} {u7 : Option Value} (k : (hK h v0 = 12) ∧ ((hK h (hR h 1249 v0) = 20) ∧ ((inA h (hR h 1249 v0) (1 : Int32) = true) ∧ ((hK h (hR h 1212 v0) = 20) ∧ ((inA h (hR h 1212 v0) v1 = true) ∧ ((1 < v0) ∧ (WP d mX12_termAt 0 [some (.ref v0), some (.int v1), some (.int (hAI h (hR h 1212 v0) (v1).toNatClampNeg))] [] h (KK d mX12_asked mX12_termAt 15 [some (.ref v0), some (.int v1), some (.int (hAI h (hR h 1249 v0) ((1 : Int32)).toNatClampNeg)), u3, u4, u5, u6, u7] [] Q)))))))) : WP (d + 1) mX12_asked 0 [some (.ref v0), some (.int v1), u2, u3, u4, u5, u6, u7] [] h Q := by
  refine w_aload_n dX12_asked_0 rfl ?_
  obtain ⟨g1, k⟩ := k
  refine w_getR dX12_asked_1 f_12_144 t_12_49 g1 ?_
  refine w_iconst dX12_asked_4 i1_1 ?_
  obtain ⟨g2, k⟩ := k
  obtain ⟨g3, k⟩ := k
  refine w_iaload dX12_asked_5 g2 g3 ?_
  refine w_istore_n (lo' := [some (.ref v0), some (.int v1), some (.int (hAI h (hR h 1249 v0) ((1 : Int32)).toNatClampNeg)), u3, u4, u5, u6, u7]) dX12_asked_6 (ltQ rfl) rfl ?_
  refine w_aload_n dX12_asked_7 rfl ?_
  refine w_iload_n dX12_asked_8 rfl ?_
  refine w_aload_n dX12_asked_9 rfl ?_
  refine w_getR dX12_asked_10 f_12_42 t_12_12 g1 ?_
  refine w_iload_n dX12_asked_13 rfl ?_
  obtain ⟨g4, k⟩ := k
  obtain ⟨g5, k⟩ := k
  refine w_iaload dX12_asked_14 g4 g5 ?_
  obtain ⟨g6, k⟩ := k
  exact w_virt (as1 := [.int (hAI h (hR h 1212 v0) (v1).toNatClampNeg), .int v1, .ref v0]) (as2 := [.ref v0, .int v1, .int (hAI h (hR h 1212 v0) (v1).toNatClampNeg)]) (rest := []) (lo2 := [some (.ref v0), some (.int v1), some (.int (hAI h (hR h 1212 v0) (v1).toNatClampNeg))]) dX12_asked_15 c_12_233 rfl rfl rfl (Nat.le_of_ble_eq_true rfl) (Nat.le_of_ble_eq_true rfl) rfl (Nat.le_of_ble_eq_true rfl) rfl rfl g6 g1 k
theorem bX12_asked_18 {d : Nat} {h : HP} {Q : Out → HP → Prop} {v0 : Nat} {v1 : Int32} {v2 : Int32} {u3 : Option Value} {u4 : Option Value} {u5 : Option Value} {u6 : Option Value} {u7 : Option Value} {s0 : Int32} (k : (hK h v0 = 12) ∧ ((hK h (hR h 1249 v0) = 20) ∧ ((inA h (hR h 1249 v0) (5 : Int32) = true) ∧ (((s0 < (hAI h (hR h 1249 v0) ((5 : Int32)).toNatClampNeg)) → WP d mX12_asked 54 [some (.ref v0), some (.int v1), some (.int v2), some (.int s0), u4, u5, u6, u7] [] h Q) ∧ ((¬ (s0 < (hAI h (hR h 1249 v0) ((5 : Int32)).toNatClampNeg))) → ((¬ (hAI h (hR h 1249 v0) ((5 : Int32)).toNatClampNeg) = s0) → WP d mX12_asked 58 [some (.ref v0), some (.int v1), some (.int v2), some (.int s0), u4, u5, u6, u7] [] h Q) ∧ ((¬ (¬ (hAI h (hR h 1249 v0) ((5 : Int32)).toNatClampNeg) = s0)) → (inA h (hR h 1249 v0) (4 : Int32) = true) ∧ ((hK h (hR h 1212 v0) = 20) ∧ ((inA h (hR h 1212 v0) v1 = true) ∧ ((((hAI h (hR h 1249 v0) ((4 : Int32)).toNatClampNeg) < (hAI h (hR h 1212 v0) (v1).toNatClampNeg)) → WP d mX12_asked 58 [some (.ref v0), some (.int v1), some (.int v2), some (.int s0), u4, u5, u6, u7] [] h Q) ∧ ((¬ ((hAI h (hR h 1249 v0) ((4 : Int32)).toNatClampNeg) < (hAI h (hR h 1212 v0) (v1).toNatClampNeg))) → WP d mX12_asked 54 [some (.ref v0), some (.int v1), some (.int v2), some (.int s0), u4, u5, u6, u7] [] h Q)))))))))) : WP d mX12_asked 18 [some (.ref v0), some (.int v1), some (.int v2), u3, u4, u5, u6, u7] [.int s0] h Q := by
  refine w_istore_n (lo' := [some (.ref v0), some (.int v1), some (.int v2), some (.int s0), u4, u5, u6, u7]) dX12_asked_18 (ltQ rfl) rfl ?_
  refine w_aload_n dX12_asked_19 rfl ?_
  obtain ⟨g1, k⟩ := k
  refine w_getR dX12_asked_20 f_12_144 t_12_49 g1 ?_
  refine w_iconst dX12_asked_23 i1_5 ?_
  obtain ⟨g2, k⟩ := k
  obtain ⟨g3, k⟩ := k
  refine w_iaload dX12_asked_24 g2 g3 ?_
  refine w_iload_n dX12_asked_25 rfl ?_
  refine w_ic_gt (pc' := 54) dX12_asked_26 rfl rfl ⟨fun c => ?_, fun c => ?_⟩
  · replace k := k.1 c
    exact k
  · replace k := k.2 c
    refine w_aload_n dX12_asked_29 rfl ?_
    refine w_getR dX12_asked_30 f_12_144 t_12_49 g1 ?_
    refine w_iconst dX12_asked_33 i1_5 ?_
    refine w_iaload dX12_asked_34 g2 g3 ?_
    refine w_iload_n dX12_asked_35 rfl ?_
    refine w_ic_ne (pc' := 58) dX12_asked_36 rfl rfl ⟨fun c => ?_, fun c => ?_⟩
    · replace k := k.1 c
      exact k
    · replace k := k.2 c
      refine w_aload_n dX12_asked_39 rfl ?_
      refine w_getR dX12_asked_40 f_12_144 t_12_49 g1 ?_
      refine w_iconst dX12_asked_43 i1_4 ?_
      obtain ⟨g4, k⟩ := k
      refine w_iaload dX12_asked_44 g2 g4 ?_
      refine w_aload_n dX12_asked_45 rfl ?_
      refine w_getR dX12_asked_46 f_12_42 t_12_12 g1 ?_
      refine w_iload_n dX12_asked_49 rfl ?_
      obtain ⟨g5, k⟩ := k
      obtain ⟨g6, k⟩ := k
      refine w_iaload dX12_asked_50 g5 g6 ?_
      refine w_ic_lt (pc' := 58) dX12_asked_51 rfl rfl ⟨fun c => ?_, fun c => ?_⟩
      · replace k := k.1 c
        exact k
      · replace k := k.2 c
        exact k
theorem bX12_asked_54 {d : Nat} {h : HP} {Q : Out → HP → Prop} {v0 : Nat} {v1 : Int32} {v2 : Int32} {v3 : Int32} {u4 : Option Value} {u5 : Option Value} {u6 : Option Value} {u7 : Option Value} (k : WP d mX12_asked 59 [some (.ref v0), some (.int v1), some (.int v2), some (.int v3), u4, u5, u6, u7] [.int (1 : Int32)] h Q) : WP d mX12_asked 54 [some (.ref v0), some (.int v1), some (.int v2), some (.int v3), u4, u5, u6, u7] [] h Q := by
  refine w_iconst dX12_asked_54 i1_1 ?_
  refine w_goto (pc' := 59) dX12_asked_55 rfl rfl ?_
  exact k
theorem bX12_asked_58 {d : Nat} {h : HP} {Q : Out → HP → Prop} {v0 : Nat} {v1 : Int32} {v2 : Int32} {v3 : Int32} {u4 : Option Value} {u5 : Option Value} {u6 : Option Value} {u7 : Option Value} (k : WP d mX12_asked 59 [some (.ref v0), some (.int v1), some (.int v2), some (.int v3), u4, u5, u6, u7] [.int (0 : Int32)] h Q) : WP d mX12_asked 58 [some (.ref v0), some (.int v1), some (.int v2), some (.int v3), u4, u5, u6, u7] [] h Q := by
  refine w_iconst dX12_asked_58 i1_0 ?_
  exact k
theorem bX12_asked_59 {d : Nat} {h : HP} {Q : Out → HP → Prop} {v0 : Nat} {v1 : Int32} {v2 : Int32} {v3 : Int32} {u4 : Option Value} {u5 : Option Value} {u6 : Option Value} {u7 : Option Value} {s0 : Int32} (k : (hK h v0 = 12) ∧ ((hK h (hR h 1210 v0) = 20) ∧ ((inA h (hR h 1210 v0) v1 = true) ∧ ((((hAI h (hR h 1210 v0) (v1).toNatClampNeg) = (-1 : Int32)) → WP (d + 1) mX12_asked 81 [some (.ref v0), some (.int v1), some (.int v2), some (.int v3), some (.int s0), u5, u6, u7] [] h Q) ∧ ((¬ ((hAI h (hR h 1210 v0) (v1).toNatClampNeg) = (-1 : Int32))) → ((¬ (hAI h (hR h 1210 v0) (v1).toNatClampNeg) = v2) → (hK h (hR h 1249 v0) = 20) ∧ ((inA h (hR h 1249 v0) (3 : Int32) = true) ∧ ((hK h (hR h 1209 v0) = 20) ∧ ((inA h (hR h 1209 v0) v1 = true) ∧ (((¬ (hAI h (hR h 1249 v0) ((3 : Int32)).toNatClampNeg) = (hAI h (hR h 1209 v0) (v1).toNatClampNeg)) → (((0 : Int32) = 0) → (1 < v0) ∧ (WP d mX12_sends 0 [some (.ref v0), some (.int (1 : Int32)), some (.int v1), some (.int v2), some (.int (hAI (sAI h (hR h 1210 v0) (v1).toNatClampNeg (hAI h (hR h 1210 v0) (v1).toNatClampNeg)) (hR h 1209 v0) (v1).toNatClampNeg)), none, none] [] (sAI h (hR h 1210 v0) (v1).toNatClampNeg (hAI h (hR h 1210 v0) (v1).toNatClampNeg)) (KK d mX12_asked mX12_sends 169 [some (.ref v0), some (.int v1), some (.int v2), some (.int v3), some (.int s0), some (.int (0 : Int32)), some (.int (0 : Int32)), u7] [] Q))) ∧ ((¬ ((0 : Int32) = 0)) → (1 < v0) ∧ (WP d mX12_sends 0 [some (.ref v0), some (.int (1 : Int32)), some (.int v1), some (.int v2), some (.int (hAI (sAI h (hR h 1210 v0) (v1).toNatClampNeg v2) (hR h 1209 v0) (v1).toNatClampNeg)), none, none] [] (sAI h (hR h 1210 v0) (v1).toNatClampNeg v2) (KK d mX12_asked mX12_sends 169 [some (.ref v0), some (.int v1), some (.int v2), some (.int v3), some (.int s0), some (.int (0 : Int32)), some (.int (0 : Int32)), u7] [] Q)))) ∧ ((¬ (¬ (hAI h (hR h 1249 v0) ((3 : Int32)).toNatClampNeg) = (hAI h (hR h 1209 v0) (v1).toNatClampNeg))) → (((0 : Int32) = 0) → (((0 : Int32) = 0) → (1 < v0) ∧ (WP d mX12_sends 0 [some (.ref v0), some (.int (1 : Int32)), some (.int v1), some (.int v2), some (.int (hAI (sAI h (hR h 1210 v0) (v1).toNatClampNeg (hAI h (hR h 1210 v0) (v1).toNatClampNeg)) (hR h 1209 v0) (v1).toNatClampNeg)), none, none] [] (sAI h (hR h 1210 v0) (v1).toNatClampNeg (hAI h (hR h 1210 v0) (v1).toNatClampNeg)) (KK d mX12_asked mX12_sends 169 [some (.ref v0), some (.int v1), some (.int v2), some (.int v3), some (.int s0), some (.int (0 : Int32)), some (.int (0 : Int32)), u7] [] Q))) ∧ ((¬ ((0 : Int32) = 0)) → (1 < v0) ∧ (WP d mX12_sends 0 [some (.ref v0), some (.int (1 : Int32)), some (.int v1), some (.int v2), some (.int (hAI (sAI h (hR h 1210 v0) (v1).toNatClampNeg v2) (hR h 1209 v0) (v1).toNatClampNeg)), none, none] [] (sAI h (hR h 1210 v0) (v1).toNatClampNeg v2) (KK d mX12_asked mX12_sends 169 [some (.ref v0), some (.int v1), some (.int v2), some (.int v3), some (.int s0), some (.int (0 : Int32)), some (.int (0 : Int32)), u7] [] Q)))) ∧ ((¬ ((0 : Int32) = 0)) → ((s0 = 0) → (((0 : Int32) = 0) → (1 < v0) ∧ (WP d mX12_sends 0 [some (.ref v0), some (.int (1 : Int32)), some (.int v1), some (.int v2), some (.int (hAI (sAI h (hR h 1210 v0) (v1).toNatClampNeg (hAI h (hR h 1210 v0) (v1).toNatClampNeg)) (hR h 1209 v0) (v1).toNatClampNeg)), none, none] [] (sAI h (hR h 1210 v0) (v1).toNatClampNeg (hAI h (hR h 1210 v0) (v1).toNatClampNeg)) (KK d mX12_asked mX12_sends 169 [some (.ref v0), some (.int v1), some (.int v2), some (.int v3), some (.int s0), some (.int (0 : Int32)), some (.int (0 : Int32)), u7] [] Q))) ∧ ((¬ ((0 : Int32) = 0)) → (1 < v0) ∧ (WP d mX12_sends 0 [some (.ref v0), some (.int (1 : Int32)), some (.int v1), some (.int v2), some (.int (hAI (sAI h (hR h 1210 v0) (v1).toNatClampNeg v2) (hR h 1209 v0) (v1).toNatClampNeg)), none, none] [] (sAI h (hR h 1210 v0) (v1).toNatClampNeg v2) (KK d mX12_asked mX12_sends 169 [some (.ref v0), some (.int v1), some (.int v2), some (.int v3), some (.int s0), some (.int (0 : Int32)), some (.int (0 : Int32)), u7] [] Q)))) ∧ ((¬ (s0 = 0)) → (1 < v0) ∧ (WP d mX12_promises 0 [some (.ref v0), some (.int v1)] [] h (KK d mX12_asked mX12_promises 115 [some (.ref v0), some (.int v1), some (.int v2), some (.int v3), some (.int s0), some (.int (0 : Int32)), u6, u7] [] Q)))))))))) ∧ ((¬ (¬ (hAI h (hR h 1210 v0) (v1).toNatClampNeg) = v2)) → WP (d + 1) mX12_asked 81 [some (.ref v0), some (.int v1), some (.int v2), some (.int v3), some (.int s0), u5, u6, u7] [] h Q)))))) : WP (d + 1) mX12_asked 59 [some (.ref v0), some (.int v1), some (.int v2), some (.int v3), u4, u5, u6, u7] [.int s0] h Q := by
  refine w_istore (lo' := [some (.ref v0), some (.int v1), some (.int v2), some (.int v3), some (.int s0), u5, u6, u7]) dX12_asked_59 (ltQ rfl) rfl ?_
  refine w_aload_n dX12_asked_61 rfl ?_
  obtain ⟨g1, k⟩ := k
  refine w_getR dX12_asked_62 f_12_36 t_12_10 g1 ?_
  refine w_iload_n dX12_asked_65 rfl ?_
  obtain ⟨g2, k⟩ := k
  obtain ⟨g3, k⟩ := k
  refine w_iaload dX12_asked_66 g2 g3 ?_
  refine w_iconst dX12_asked_67 i1_m1 ?_
  refine w_ic_eq (pc' := 81) dX12_asked_68 rfl rfl ⟨fun c => ?_, fun c => ?_⟩
  · replace k := k.1 c
    exact k
  · replace k := k.2 c
    refine w_aload_n dX12_asked_71 rfl ?_
    refine w_getR dX12_asked_72 f_12_36 t_12_10 g1 ?_
    refine w_iload_n dX12_asked_75 rfl ?_
    refine w_iaload dX12_asked_76 g2 g3 ?_
    refine w_iload_n dX12_asked_77 rfl ?_
    refine w_ic_ne (pc' := 85) dX12_asked_78 rfl rfl ⟨fun c => ?_, fun c => ?_⟩
    · replace k := k.1 c
      refine w_iconst dX12_asked_85 i1_0 ?_
      refine w_istore (lo' := [some (.ref v0), some (.int v1), some (.int v2), some (.int v3), some (.int s0), some (.int (0 : Int32)), u6, u7]) dX12_asked_86 (ltQ rfl) rfl ?_
      refine w_aload_n dX12_asked_88 rfl ?_
      refine w_getR dX12_asked_89 f_12_144 t_12_49 g1 ?_
      refine w_iconst dX12_asked_92 i1_3 ?_
      obtain ⟨g4, k⟩ := k
      obtain ⟨g5, k⟩ := k
      refine w_iaload dX12_asked_93 g4 g5 ?_
      refine w_aload_n dX12_asked_94 rfl ?_
      refine w_getR dX12_asked_95 f_12_32 t_12_9 g1 ?_
      refine w_iload_n dX12_asked_98 rfl ?_
      obtain ⟨g6, k⟩ := k
      obtain ⟨g7, k⟩ := k
      refine w_iaload dX12_asked_99 g6 g7 ?_
      refine w_ic_ne (pc' := 135) dX12_asked_100 rfl rfl ⟨fun c => ?_, fun c => ?_⟩
      · replace k := k.1 c
        refine w_iconst dX12_asked_135 i1_0 ?_
        refine w_istore (lo' := [some (.ref v0), some (.int v1), some (.int v2), some (.int v3), some (.int s0), some (.int (0 : Int32)), some (.int (0 : Int32)), u7]) dX12_asked_136 (ltQ rfl) rfl ?_
        refine w_aload_n dX12_asked_138 rfl ?_
        refine w_getR dX12_asked_139 f_12_36 t_12_10 g1 ?_
        refine w_iload_n dX12_asked_142 rfl ?_
        refine w_iload dX12_asked_143 rfl ?_
        refine w_if_eq (pc' := 152) dX12_asked_145 rfl rfl ⟨fun c => ?_, fun c => ?_⟩
        · replace k := k.1 c
          refine w_aload_n dX12_asked_152 rfl ?_
          refine w_getR dX12_asked_153 f_12_36 t_12_10 g1 ?_
          refine w_iload_n dX12_asked_156 rfl ?_
          refine w_iaload dX12_asked_157 g2 g3 ?_
          refine w_iastore dX12_asked_158 g2 g3 ?_
          refine w_aload_n dX12_asked_159 rfl ?_
          refine w_iconst dX12_asked_160 i1_1 ?_
          refine w_iload_n dX12_asked_161 rfl ?_
          refine w_iload_n dX12_asked_162 rfl ?_
          refine w_aload_n dX12_asked_163 rfl ?_
          refine w_getR dX12_asked_164 f_12_32 t_12_9 g1 ?_
          refine w_iload_n dX12_asked_167 rfl ?_
          refine w_iaload dX12_asked_168 g6 g7 ?_
          obtain ⟨g8, k⟩ := k
          exact w_virt (as1 := [.int (hAI (sAI h (hR h 1210 v0) (v1).toNatClampNeg (hAI h (hR h 1210 v0) (v1).toNatClampNeg)) (hR h 1209 v0) (v1).toNatClampNeg), .int v2, .int v1, .int (1 : Int32), .ref v0]) (as2 := [.ref v0, .int (1 : Int32), .int v1, .int v2, .int (hAI (sAI h (hR h 1210 v0) (v1).toNatClampNeg (hAI h (hR h 1210 v0) (v1).toNatClampNeg)) (hR h 1209 v0) (v1).toNatClampNeg)]) (rest := []) (lo2 := [some (.ref v0), some (.int (1 : Int32)), some (.int v1), some (.int v2), some (.int (hAI (sAI h (hR h 1210 v0) (v1).toNatClampNeg (hAI h (hR h 1210 v0) (v1).toNatClampNeg)) (hR h 1209 v0) (v1).toNatClampNeg)), none, none]) dX12_asked_169 c_12_229 rfl rfl rfl (Nat.le_of_ble_eq_true rfl) (Nat.le_of_ble_eq_true rfl) rfl (Nat.le_of_ble_eq_true rfl) rfl rfl g8 g1 k
        · replace k := k.2 c
          refine w_iload_n dX12_asked_148 rfl ?_
          refine w_goto (pc' := 158) dX12_asked_149 rfl rfl ?_
          refine w_iastore dX12_asked_158 g2 g3 ?_
          refine w_aload_n dX12_asked_159 rfl ?_
          refine w_iconst dX12_asked_160 i1_1 ?_
          refine w_iload_n dX12_asked_161 rfl ?_
          refine w_iload_n dX12_asked_162 rfl ?_
          refine w_aload_n dX12_asked_163 rfl ?_
          refine w_getR dX12_asked_164 f_12_32 t_12_9 g1 ?_
          refine w_iload_n dX12_asked_167 rfl ?_
          refine w_iaload dX12_asked_168 g6 g7 ?_
          obtain ⟨g9, k⟩ := k
          exact w_virt (as1 := [.int (hAI (sAI h (hR h 1210 v0) (v1).toNatClampNeg v2) (hR h 1209 v0) (v1).toNatClampNeg), .int v2, .int v1, .int (1 : Int32), .ref v0]) (as2 := [.ref v0, .int (1 : Int32), .int v1, .int v2, .int (hAI (sAI h (hR h 1210 v0) (v1).toNatClampNeg v2) (hR h 1209 v0) (v1).toNatClampNeg)]) (rest := []) (lo2 := [some (.ref v0), some (.int (1 : Int32)), some (.int v1), some (.int v2), some (.int (hAI (sAI h (hR h 1210 v0) (v1).toNatClampNeg v2) (hR h 1209 v0) (v1).toNatClampNeg)), none, none]) dX12_asked_169 c_12_229 rfl rfl rfl (Nat.le_of_ble_eq_true rfl) (Nat.le_of_ble_eq_true rfl) rfl (Nat.le_of_ble_eq_true rfl) rfl rfl g9 g1 k
      · replace k := k.2 c
        refine w_iload dX12_asked_103 rfl ?_
        refine w_if_eq (pc' := 135) dX12_asked_105 rfl rfl ⟨fun c => ?_, fun c => ?_⟩
        · replace k := k.1 c
          refine w_iconst dX12_asked_135 i1_0 ?_
          refine w_istore (lo' := [some (.ref v0), some (.int v1), some (.int v2), some (.int v3), some (.int s0), some (.int (0 : Int32)), some (.int (0 : Int32)), u7]) dX12_asked_136 (ltQ rfl) rfl ?_
          refine w_aload_n dX12_asked_138 rfl ?_
          refine w_getR dX12_asked_139 f_12_36 t_12_10 g1 ?_
          refine w_iload_n dX12_asked_142 rfl ?_
          refine w_iload dX12_asked_143 rfl ?_
          refine w_if_eq (pc' := 152) dX12_asked_145 rfl rfl ⟨fun c => ?_, fun c => ?_⟩
          · replace k := k.1 c
            refine w_aload_n dX12_asked_152 rfl ?_
            refine w_getR dX12_asked_153 f_12_36 t_12_10 g1 ?_
            refine w_iload_n dX12_asked_156 rfl ?_
            refine w_iaload dX12_asked_157 g2 g3 ?_
            refine w_iastore dX12_asked_158 g2 g3 ?_
            refine w_aload_n dX12_asked_159 rfl ?_
            refine w_iconst dX12_asked_160 i1_1 ?_
            refine w_iload_n dX12_asked_161 rfl ?_
            refine w_iload_n dX12_asked_162 rfl ?_
            refine w_aload_n dX12_asked_163 rfl ?_
            refine w_getR dX12_asked_164 f_12_32 t_12_9 g1 ?_
            refine w_iload_n dX12_asked_167 rfl ?_
            refine w_iaload dX12_asked_168 g6 g7 ?_
            obtain ⟨g10, k⟩ := k
            exact w_virt (as1 := [.int (hAI (sAI h (hR h 1210 v0) (v1).toNatClampNeg (hAI h (hR h 1210 v0) (v1).toNatClampNeg)) (hR h 1209 v0) (v1).toNatClampNeg), .int v2, .int v1, .int (1 : Int32), .ref v0]) (as2 := [.ref v0, .int (1 : Int32), .int v1, .int v2, .int (hAI (sAI h (hR h 1210 v0) (v1).toNatClampNeg (hAI h (hR h 1210 v0) (v1).toNatClampNeg)) (hR h 1209 v0) (v1).toNatClampNeg)]) (rest := []) (lo2 := [some (.ref v0), some (.int (1 : Int32)), some (.int v1), some (.int v2), some (.int (hAI (sAI h (hR h 1210 v0) (v1).toNatClampNeg (hAI h (hR h 1210 v0) (v1).toNatClampNeg)) (hR h 1209 v0) (v1).toNatClampNeg)), none, none]) dX12_asked_169 c_12_229 rfl rfl rfl (Nat.le_of_ble_eq_true rfl) (Nat.le_of_ble_eq_true rfl) rfl (Nat.le_of_ble_eq_true rfl) rfl rfl g10 g1 k
          · replace k := k.2 c
            refine w_iload_n dX12_asked_148 rfl ?_
            refine w_goto (pc' := 158) dX12_asked_149 rfl rfl ?_
            refine w_iastore dX12_asked_158 g2 g3 ?_
            refine w_aload_n dX12_asked_159 rfl ?_
            refine w_iconst dX12_asked_160 i1_1 ?_
            refine w_iload_n dX12_asked_161 rfl ?_
            refine w_iload_n dX12_asked_162 rfl ?_
            refine w_aload_n dX12_asked_163 rfl ?_
            refine w_getR dX12_asked_164 f_12_32 t_12_9 g1 ?_
            refine w_iload_n dX12_asked_167 rfl ?_
            refine w_iaload dX12_asked_168 g6 g7 ?_
            obtain ⟨g11, k⟩ := k
            exact w_virt (as1 := [.int (hAI (sAI h (hR h 1210 v0) (v1).toNatClampNeg v2) (hR h 1209 v0) (v1).toNatClampNeg), .int v2, .int v1, .int (1 : Int32), .ref v0]) (as2 := [.ref v0, .int (1 : Int32), .int v1, .int v2, .int (hAI (sAI h (hR h 1210 v0) (v1).toNatClampNeg v2) (hR h 1209 v0) (v1).toNatClampNeg)]) (rest := []) (lo2 := [some (.ref v0), some (.int (1 : Int32)), some (.int v1), some (.int v2), some (.int (hAI (sAI h (hR h 1210 v0) (v1).toNatClampNeg v2) (hR h 1209 v0) (v1).toNatClampNeg)), none, none]) dX12_asked_169 c_12_229 rfl rfl rfl (Nat.le_of_ble_eq_true rfl) (Nat.le_of_ble_eq_true rfl) rfl (Nat.le_of_ble_eq_true rfl) rfl rfl g11 g1 k
        · replace k := k.2 c
          refine w_iload dX12_asked_108 rfl ?_
          refine w_if_eq (pc' := 135) dX12_asked_110 rfl rfl ⟨fun c => ?_, fun c => ?_⟩
          · replace k := k.1 c
            refine w_iconst dX12_asked_135 i1_0 ?_
            refine w_istore (lo' := [some (.ref v0), some (.int v1), some (.int v2), some (.int v3), some (.int s0), some (.int (0 : Int32)), some (.int (0 : Int32)), u7]) dX12_asked_136 (ltQ rfl) rfl ?_
            refine w_aload_n dX12_asked_138 rfl ?_
            refine w_getR dX12_asked_139 f_12_36 t_12_10 g1 ?_
            refine w_iload_n dX12_asked_142 rfl ?_
            refine w_iload dX12_asked_143 rfl ?_
            refine w_if_eq (pc' := 152) dX12_asked_145 rfl rfl ⟨fun c => ?_, fun c => ?_⟩
            · replace k := k.1 c
              refine w_aload_n dX12_asked_152 rfl ?_
              refine w_getR dX12_asked_153 f_12_36 t_12_10 g1 ?_
              refine w_iload_n dX12_asked_156 rfl ?_
              refine w_iaload dX12_asked_157 g2 g3 ?_
              refine w_iastore dX12_asked_158 g2 g3 ?_
              refine w_aload_n dX12_asked_159 rfl ?_
              refine w_iconst dX12_asked_160 i1_1 ?_
              refine w_iload_n dX12_asked_161 rfl ?_
              refine w_iload_n dX12_asked_162 rfl ?_
              refine w_aload_n dX12_asked_163 rfl ?_
              refine w_getR dX12_asked_164 f_12_32 t_12_9 g1 ?_
              refine w_iload_n dX12_asked_167 rfl ?_
              refine w_iaload dX12_asked_168 g6 g7 ?_
              obtain ⟨g12, k⟩ := k
              exact w_virt (as1 := [.int (hAI (sAI h (hR h 1210 v0) (v1).toNatClampNeg (hAI h (hR h 1210 v0) (v1).toNatClampNeg)) (hR h 1209 v0) (v1).toNatClampNeg), .int v2, .int v1, .int (1 : Int32), .ref v0]) (as2 := [.ref v0, .int (1 : Int32), .int v1, .int v2, .int (hAI (sAI h (hR h 1210 v0) (v1).toNatClampNeg (hAI h (hR h 1210 v0) (v1).toNatClampNeg)) (hR h 1209 v0) (v1).toNatClampNeg)]) (rest := []) (lo2 := [some (.ref v0), some (.int (1 : Int32)), some (.int v1), some (.int v2), some (.int (hAI (sAI h (hR h 1210 v0) (v1).toNatClampNeg (hAI h (hR h 1210 v0) (v1).toNatClampNeg)) (hR h 1209 v0) (v1).toNatClampNeg)), none, none]) dX12_asked_169 c_12_229 rfl rfl rfl (Nat.le_of_ble_eq_true rfl) (Nat.le_of_ble_eq_true rfl) rfl (Nat.le_of_ble_eq_true rfl) rfl rfl g12 g1 k
            · replace k := k.2 c
              refine w_iload_n dX12_asked_148 rfl ?_
              refine w_goto (pc' := 158) dX12_asked_149 rfl rfl ?_
              refine w_iastore dX12_asked_158 g2 g3 ?_
              refine w_aload_n dX12_asked_159 rfl ?_
              refine w_iconst dX12_asked_160 i1_1 ?_
              refine w_iload_n dX12_asked_161 rfl ?_
              refine w_iload_n dX12_asked_162 rfl ?_
              refine w_aload_n dX12_asked_163 rfl ?_
              refine w_getR dX12_asked_164 f_12_32 t_12_9 g1 ?_
              refine w_iload_n dX12_asked_167 rfl ?_
              refine w_iaload dX12_asked_168 g6 g7 ?_
              obtain ⟨g13, k⟩ := k
              exact w_virt (as1 := [.int (hAI (sAI h (hR h 1210 v0) (v1).toNatClampNeg v2) (hR h 1209 v0) (v1).toNatClampNeg), .int v2, .int v1, .int (1 : Int32), .ref v0]) (as2 := [.ref v0, .int (1 : Int32), .int v1, .int v2, .int (hAI (sAI h (hR h 1210 v0) (v1).toNatClampNeg v2) (hR h 1209 v0) (v1).toNatClampNeg)]) (rest := []) (lo2 := [some (.ref v0), some (.int (1 : Int32)), some (.int v1), some (.int v2), some (.int (hAI (sAI h (hR h 1210 v0) (v1).toNatClampNeg v2) (hR h 1209 v0) (v1).toNatClampNeg)), none, none]) dX12_asked_169 c_12_229 rfl rfl rfl (Nat.le_of_ble_eq_true rfl) (Nat.le_of_ble_eq_true rfl) rfl (Nat.le_of_ble_eq_true rfl) rfl rfl g13 g1 k
          · replace k := k.2 c
            refine w_aload_n dX12_asked_113 rfl ?_
            refine w_iload_n dX12_asked_114 rfl ?_
            obtain ⟨g14, k⟩ := k
            exact w_virt (as1 := [.int v1, .ref v0]) (as2 := [.ref v0, .int v1]) (rest := []) (lo2 := [some (.ref v0), some (.int v1)]) dX12_asked_115 c_12_226 rfl rfl rfl (Nat.le_of_ble_eq_true rfl) (Nat.le_of_ble_eq_true rfl) rfl (Nat.le_of_ble_eq_true rfl) rfl rfl g14 g1 k
    · replace k := k.2 c
      exact k
theorem bX12_asked_81 {d : Nat} {h : HP} {Q : Out → HP → Prop} {v0 : Nat} {v1 : Int32} {v2 : Int32} {v3 : Int32} {v4 : Int32} {u5 : Option Value} {u6 : Option Value} {u7 : Option Value} (k : (hK h v0 = 12) ∧ ((hK h (hR h 1249 v0) = 20) ∧ ((inA h (hR h 1249 v0) (3 : Int32) = true) ∧ ((hK h (hR h 1209 v0) = 20) ∧ ((inA h (hR h 1209 v0) v1 = true) ∧ (((¬ (hAI h (hR h 1249 v0) ((3 : Int32)).toNatClampNeg) = (hAI h (hR h 1209 v0) (v1).toNatClampNeg)) → (((0 : Int32) = 0) → (hK h (hR h 1210 v0) = 20) ∧ ((inA h (hR h 1210 v0) v1 = true) ∧ ((1 < v0) ∧ (WP d mX12_sends 0 [some (.ref v0), some (.int (1 : Int32)), some (.int v1), some (.int v2), some (.int (hAI (sAI h (hR h 1210 v0) (v1).toNatClampNeg (hAI h (hR h 1210 v0) (v1).toNatClampNeg)) (hR h 1209 v0) (v1).toNatClampNeg)), none, none] [] (sAI h (hR h 1210 v0) (v1).toNatClampNeg (hAI h (hR h 1210 v0) (v1).toNatClampNeg)) (KK d mX12_asked mX12_sends 169 [some (.ref v0), some (.int v1), some (.int v2), some (.int v3), some (.int v4), some (.int (1 : Int32)), some (.int (0 : Int32)), u7] [] Q))))) ∧ ((¬ ((0 : Int32) = 0)) → (hK h (hR h 1210 v0) = 20) ∧ ((inA h (hR h 1210 v0) v1 = true) ∧ ((1 < v0) ∧ (WP d mX12_sends 0 [some (.ref v0), some (.int (1 : Int32)), some (.int v1), some (.int v2), some (.int (hAI (sAI h (hR h 1210 v0) (v1).toNatClampNeg v2) (hR h 1209 v0) (v1).toNatClampNeg)), none, none] [] (sAI h (hR h 1210 v0) (v1).toNatClampNeg v2) (KK d mX12_asked mX12_sends 169 [some (.ref v0), some (.int v1), some (.int v2), some (.int v3), some (.int v4), some (.int (1 : Int32)), some (.int (0 : Int32)), u7] [] Q)))))) ∧ ((¬ (¬ (hAI h (hR h 1249 v0) ((3 : Int32)).toNatClampNeg) = (hAI h (hR h 1209 v0) (v1).toNatClampNeg))) → (((1 : Int32) = 0) → (((0 : Int32) = 0) → (hK h (hR h 1210 v0) = 20) ∧ ((inA h (hR h 1210 v0) v1 = true) ∧ ((1 < v0) ∧ (WP d mX12_sends 0 [some (.ref v0), some (.int (1 : Int32)), some (.int v1), some (.int v2), some (.int (hAI (sAI h (hR h 1210 v0) (v1).toNatClampNeg (hAI h (hR h 1210 v0) (v1).toNatClampNeg)) (hR h 1209 v0) (v1).toNatClampNeg)), none, none] [] (sAI h (hR h 1210 v0) (v1).toNatClampNeg (hAI h (hR h 1210 v0) (v1).toNatClampNeg)) (KK d mX12_asked mX12_sends 169 [some (.ref v0), some (.int v1), some (.int v2), some (.int v3), some (.int v4), some (.int (1 : Int32)), some (.int (0 : Int32)), u7] [] Q))))) ∧ ((¬ ((0 : Int32) = 0)) → (hK h (hR h 1210 v0) = 20) ∧ ((inA h (hR h 1210 v0) v1 = true) ∧ ((1 < v0) ∧ (WP d mX12_sends 0 [some (.ref v0), some (.int (1 : Int32)), some (.int v1), some (.int v2), some (.int (hAI (sAI h (hR h 1210 v0) (v1).toNatClampNeg v2) (hR h 1209 v0) (v1).toNatClampNeg)), none, none] [] (sAI h (hR h 1210 v0) (v1).toNatClampNeg v2) (KK d mX12_asked mX12_sends 169 [some (.ref v0), some (.int v1), some (.int v2), some (.int v3), some (.int v4), some (.int (1 : Int32)), some (.int (0 : Int32)), u7] [] Q)))))) ∧ ((¬ ((1 : Int32) = 0)) → ((v4 = 0) → (((0 : Int32) = 0) → (hK h (hR h 1210 v0) = 20) ∧ ((inA h (hR h 1210 v0) v1 = true) ∧ ((1 < v0) ∧ (WP d mX12_sends 0 [some (.ref v0), some (.int (1 : Int32)), some (.int v1), some (.int v2), some (.int (hAI (sAI h (hR h 1210 v0) (v1).toNatClampNeg (hAI h (hR h 1210 v0) (v1).toNatClampNeg)) (hR h 1209 v0) (v1).toNatClampNeg)), none, none] [] (sAI h (hR h 1210 v0) (v1).toNatClampNeg (hAI h (hR h 1210 v0) (v1).toNatClampNeg)) (KK d mX12_asked mX12_sends 169 [some (.ref v0), some (.int v1), some (.int v2), some (.int v3), some (.int v4), some (.int (1 : Int32)), some (.int (0 : Int32)), u7] [] Q))))) ∧ ((¬ ((0 : Int32) = 0)) → (hK h (hR h 1210 v0) = 20) ∧ ((inA h (hR h 1210 v0) v1 = true) ∧ ((1 < v0) ∧ (WP d mX12_sends 0 [some (.ref v0), some (.int (1 : Int32)), some (.int v1), some (.int v2), some (.int (hAI (sAI h (hR h 1210 v0) (v1).toNatClampNeg v2) (hR h 1209 v0) (v1).toNatClampNeg)), none, none] [] (sAI h (hR h 1210 v0) (v1).toNatClampNeg v2) (KK d mX12_asked mX12_sends 169 [some (.ref v0), some (.int v1), some (.int v2), some (.int v3), some (.int v4), some (.int (1 : Int32)), some (.int (0 : Int32)), u7] [] Q)))))) ∧ ((¬ (v4 = 0)) → (1 < v0) ∧ (WP d mX12_promises 0 [some (.ref v0), some (.int v1)] [] h (KK d mX12_asked mX12_promises 115 [some (.ref v0), some (.int v1), some (.int v2), some (.int v3), some (.int v4), some (.int (1 : Int32)), u6, u7] [] Q))))))))))) : WP (d + 1) mX12_asked 81 [some (.ref v0), some (.int v1), some (.int v2), some (.int v3), some (.int v4), u5, u6, u7] [] h Q := by
  refine w_iconst dX12_asked_81 i1_1 ?_
  refine w_goto (pc' := 86) dX12_asked_82 rfl rfl ?_
  refine w_istore (lo' := [some (.ref v0), some (.int v1), some (.int v2), some (.int v3), some (.int v4), some (.int (1 : Int32)), u6, u7]) dX12_asked_86 (ltQ rfl) rfl ?_
  refine w_aload_n dX12_asked_88 rfl ?_
  obtain ⟨g1, k⟩ := k
  refine w_getR dX12_asked_89 f_12_144 t_12_49 g1 ?_
  refine w_iconst dX12_asked_92 i1_3 ?_
  obtain ⟨g2, k⟩ := k
  obtain ⟨g3, k⟩ := k
  refine w_iaload dX12_asked_93 g2 g3 ?_
  refine w_aload_n dX12_asked_94 rfl ?_
  refine w_getR dX12_asked_95 f_12_32 t_12_9 g1 ?_
  refine w_iload_n dX12_asked_98 rfl ?_
  obtain ⟨g4, k⟩ := k
  obtain ⟨g5, k⟩ := k
  refine w_iaload dX12_asked_99 g4 g5 ?_
  refine w_ic_ne (pc' := 135) dX12_asked_100 rfl rfl ⟨fun c => ?_, fun c => ?_⟩
  · replace k := k.1 c
    refine w_iconst dX12_asked_135 i1_0 ?_
    refine w_istore (lo' := [some (.ref v0), some (.int v1), some (.int v2), some (.int v3), some (.int v4), some (.int (1 : Int32)), some (.int (0 : Int32)), u7]) dX12_asked_136 (ltQ rfl) rfl ?_
    refine w_aload_n dX12_asked_138 rfl ?_
    refine w_getR dX12_asked_139 f_12_36 t_12_10 g1 ?_
    refine w_iload_n dX12_asked_142 rfl ?_
    refine w_iload dX12_asked_143 rfl ?_
    refine w_if_eq (pc' := 152) dX12_asked_145 rfl rfl ⟨fun c => ?_, fun c => ?_⟩
    · replace k := k.1 c
      refine w_aload_n dX12_asked_152 rfl ?_
      refine w_getR dX12_asked_153 f_12_36 t_12_10 g1 ?_
      refine w_iload_n dX12_asked_156 rfl ?_
      obtain ⟨g6, k⟩ := k
      obtain ⟨g7, k⟩ := k
      refine w_iaload dX12_asked_157 g6 g7 ?_
      refine w_iastore dX12_asked_158 g6 g7 ?_
      refine w_aload_n dX12_asked_159 rfl ?_
      refine w_iconst dX12_asked_160 i1_1 ?_
      refine w_iload_n dX12_asked_161 rfl ?_
      refine w_iload_n dX12_asked_162 rfl ?_
      refine w_aload_n dX12_asked_163 rfl ?_
      refine w_getR dX12_asked_164 f_12_32 t_12_9 g1 ?_
      refine w_iload_n dX12_asked_167 rfl ?_
      refine w_iaload dX12_asked_168 g4 g5 ?_
      obtain ⟨g8, k⟩ := k
      exact w_virt (as1 := [.int (hAI (sAI h (hR h 1210 v0) (v1).toNatClampNeg (hAI h (hR h 1210 v0) (v1).toNatClampNeg)) (hR h 1209 v0) (v1).toNatClampNeg), .int v2, .int v1, .int (1 : Int32), .ref v0]) (as2 := [.ref v0, .int (1 : Int32), .int v1, .int v2, .int (hAI (sAI h (hR h 1210 v0) (v1).toNatClampNeg (hAI h (hR h 1210 v0) (v1).toNatClampNeg)) (hR h 1209 v0) (v1).toNatClampNeg)]) (rest := []) (lo2 := [some (.ref v0), some (.int (1 : Int32)), some (.int v1), some (.int v2), some (.int (hAI (sAI h (hR h 1210 v0) (v1).toNatClampNeg (hAI h (hR h 1210 v0) (v1).toNatClampNeg)) (hR h 1209 v0) (v1).toNatClampNeg)), none, none]) dX12_asked_169 c_12_229 rfl rfl rfl (Nat.le_of_ble_eq_true rfl) (Nat.le_of_ble_eq_true rfl) rfl (Nat.le_of_ble_eq_true rfl) rfl rfl g8 g1 k
    · replace k := k.2 c
      refine w_iload_n dX12_asked_148 rfl ?_
      refine w_goto (pc' := 158) dX12_asked_149 rfl rfl ?_
      obtain ⟨g9, k⟩ := k
      obtain ⟨g10, k⟩ := k
      refine w_iastore dX12_asked_158 g9 g10 ?_
      refine w_aload_n dX12_asked_159 rfl ?_
      refine w_iconst dX12_asked_160 i1_1 ?_
      refine w_iload_n dX12_asked_161 rfl ?_
      refine w_iload_n dX12_asked_162 rfl ?_
      refine w_aload_n dX12_asked_163 rfl ?_
      refine w_getR dX12_asked_164 f_12_32 t_12_9 g1 ?_
      refine w_iload_n dX12_asked_167 rfl ?_
      refine w_iaload dX12_asked_168 g4 g5 ?_
      obtain ⟨g11, k⟩ := k
      exact w_virt (as1 := [.int (hAI (sAI h (hR h 1210 v0) (v1).toNatClampNeg v2) (hR h 1209 v0) (v1).toNatClampNeg), .int v2, .int v1, .int (1 : Int32), .ref v0]) (as2 := [.ref v0, .int (1 : Int32), .int v1, .int v2, .int (hAI (sAI h (hR h 1210 v0) (v1).toNatClampNeg v2) (hR h 1209 v0) (v1).toNatClampNeg)]) (rest := []) (lo2 := [some (.ref v0), some (.int (1 : Int32)), some (.int v1), some (.int v2), some (.int (hAI (sAI h (hR h 1210 v0) (v1).toNatClampNeg v2) (hR h 1209 v0) (v1).toNatClampNeg)), none, none]) dX12_asked_169 c_12_229 rfl rfl rfl (Nat.le_of_ble_eq_true rfl) (Nat.le_of_ble_eq_true rfl) rfl (Nat.le_of_ble_eq_true rfl) rfl rfl g11 g1 k
  · replace k := k.2 c
    refine w_iload dX12_asked_103 rfl ?_
    refine w_if_eq (pc' := 135) dX12_asked_105 rfl rfl ⟨fun c => ?_, fun c => ?_⟩
    · replace k := k.1 c
      refine w_iconst dX12_asked_135 i1_0 ?_
      refine w_istore (lo' := [some (.ref v0), some (.int v1), some (.int v2), some (.int v3), some (.int v4), some (.int (1 : Int32)), some (.int (0 : Int32)), u7]) dX12_asked_136 (ltQ rfl) rfl ?_
      refine w_aload_n dX12_asked_138 rfl ?_
      refine w_getR dX12_asked_139 f_12_36 t_12_10 g1 ?_
      refine w_iload_n dX12_asked_142 rfl ?_
      refine w_iload dX12_asked_143 rfl ?_
      refine w_if_eq (pc' := 152) dX12_asked_145 rfl rfl ⟨fun c => ?_, fun c => ?_⟩
      · replace k := k.1 c
        refine w_aload_n dX12_asked_152 rfl ?_
        refine w_getR dX12_asked_153 f_12_36 t_12_10 g1 ?_
        refine w_iload_n dX12_asked_156 rfl ?_
        obtain ⟨g12, k⟩ := k
        obtain ⟨g13, k⟩ := k
        refine w_iaload dX12_asked_157 g12 g13 ?_
        refine w_iastore dX12_asked_158 g12 g13 ?_
        refine w_aload_n dX12_asked_159 rfl ?_
        refine w_iconst dX12_asked_160 i1_1 ?_
        refine w_iload_n dX12_asked_161 rfl ?_
        refine w_iload_n dX12_asked_162 rfl ?_
        refine w_aload_n dX12_asked_163 rfl ?_
        refine w_getR dX12_asked_164 f_12_32 t_12_9 g1 ?_
        refine w_iload_n dX12_asked_167 rfl ?_
        refine w_iaload dX12_asked_168 g4 g5 ?_
        obtain ⟨g14, k⟩ := k
        exact w_virt (as1 := [.int (hAI (sAI h (hR h 1210 v0) (v1).toNatClampNeg (hAI h (hR h 1210 v0) (v1).toNatClampNeg)) (hR h 1209 v0) (v1).toNatClampNeg), .int v2, .int v1, .int (1 : Int32), .ref v0]) (as2 := [.ref v0, .int (1 : Int32), .int v1, .int v2, .int (hAI (sAI h (hR h 1210 v0) (v1).toNatClampNeg (hAI h (hR h 1210 v0) (v1).toNatClampNeg)) (hR h 1209 v0) (v1).toNatClampNeg)]) (rest := []) (lo2 := [some (.ref v0), some (.int (1 : Int32)), some (.int v1), some (.int v2), some (.int (hAI (sAI h (hR h 1210 v0) (v1).toNatClampNeg (hAI h (hR h 1210 v0) (v1).toNatClampNeg)) (hR h 1209 v0) (v1).toNatClampNeg)), none, none]) dX12_asked_169 c_12_229 rfl rfl rfl (Nat.le_of_ble_eq_true rfl) (Nat.le_of_ble_eq_true rfl) rfl (Nat.le_of_ble_eq_true rfl) rfl rfl g14 g1 k
      · replace k := k.2 c
        refine w_iload_n dX12_asked_148 rfl ?_
        refine w_goto (pc' := 158) dX12_asked_149 rfl rfl ?_
        obtain ⟨g15, k⟩ := k
        obtain ⟨g16, k⟩ := k
        refine w_iastore dX12_asked_158 g15 g16 ?_
        refine w_aload_n dX12_asked_159 rfl ?_
        refine w_iconst dX12_asked_160 i1_1 ?_
        refine w_iload_n dX12_asked_161 rfl ?_
        refine w_iload_n dX12_asked_162 rfl ?_
        refine w_aload_n dX12_asked_163 rfl ?_
        refine w_getR dX12_asked_164 f_12_32 t_12_9 g1 ?_
        refine w_iload_n dX12_asked_167 rfl ?_
        refine w_iaload dX12_asked_168 g4 g5 ?_
        obtain ⟨g17, k⟩ := k
        exact w_virt (as1 := [.int (hAI (sAI h (hR h 1210 v0) (v1).toNatClampNeg v2) (hR h 1209 v0) (v1).toNatClampNeg), .int v2, .int v1, .int (1 : Int32), .ref v0]) (as2 := [.ref v0, .int (1 : Int32), .int v1, .int v2, .int (hAI (sAI h (hR h 1210 v0) (v1).toNatClampNeg v2) (hR h 1209 v0) (v1).toNatClampNeg)]) (rest := []) (lo2 := [some (.ref v0), some (.int (1 : Int32)), some (.int v1), some (.int v2), some (.int (hAI (sAI h (hR h 1210 v0) (v1).toNatClampNeg v2) (hR h 1209 v0) (v1).toNatClampNeg)), none, none]) dX12_asked_169 c_12_229 rfl rfl rfl (Nat.le_of_ble_eq_true rfl) (Nat.le_of_ble_eq_true rfl) rfl (Nat.le_of_ble_eq_true rfl) rfl rfl g17 g1 k
    · replace k := k.2 c
      refine w_iload dX12_asked_108 rfl ?_
      refine w_if_eq (pc' := 135) dX12_asked_110 rfl rfl ⟨fun c => ?_, fun c => ?_⟩
      · replace k := k.1 c
        refine w_iconst dX12_asked_135 i1_0 ?_
        refine w_istore (lo' := [some (.ref v0), some (.int v1), some (.int v2), some (.int v3), some (.int v4), some (.int (1 : Int32)), some (.int (0 : Int32)), u7]) dX12_asked_136 (ltQ rfl) rfl ?_
        refine w_aload_n dX12_asked_138 rfl ?_
        refine w_getR dX12_asked_139 f_12_36 t_12_10 g1 ?_
        refine w_iload_n dX12_asked_142 rfl ?_
        refine w_iload dX12_asked_143 rfl ?_
        refine w_if_eq (pc' := 152) dX12_asked_145 rfl rfl ⟨fun c => ?_, fun c => ?_⟩
        · replace k := k.1 c
          refine w_aload_n dX12_asked_152 rfl ?_
          refine w_getR dX12_asked_153 f_12_36 t_12_10 g1 ?_
          refine w_iload_n dX12_asked_156 rfl ?_
          obtain ⟨g18, k⟩ := k
          obtain ⟨g19, k⟩ := k
          refine w_iaload dX12_asked_157 g18 g19 ?_
          refine w_iastore dX12_asked_158 g18 g19 ?_
          refine w_aload_n dX12_asked_159 rfl ?_
          refine w_iconst dX12_asked_160 i1_1 ?_
          refine w_iload_n dX12_asked_161 rfl ?_
          refine w_iload_n dX12_asked_162 rfl ?_
          refine w_aload_n dX12_asked_163 rfl ?_
          refine w_getR dX12_asked_164 f_12_32 t_12_9 g1 ?_
          refine w_iload_n dX12_asked_167 rfl ?_
          refine w_iaload dX12_asked_168 g4 g5 ?_
          obtain ⟨g20, k⟩ := k
          exact w_virt (as1 := [.int (hAI (sAI h (hR h 1210 v0) (v1).toNatClampNeg (hAI h (hR h 1210 v0) (v1).toNatClampNeg)) (hR h 1209 v0) (v1).toNatClampNeg), .int v2, .int v1, .int (1 : Int32), .ref v0]) (as2 := [.ref v0, .int (1 : Int32), .int v1, .int v2, .int (hAI (sAI h (hR h 1210 v0) (v1).toNatClampNeg (hAI h (hR h 1210 v0) (v1).toNatClampNeg)) (hR h 1209 v0) (v1).toNatClampNeg)]) (rest := []) (lo2 := [some (.ref v0), some (.int (1 : Int32)), some (.int v1), some (.int v2), some (.int (hAI (sAI h (hR h 1210 v0) (v1).toNatClampNeg (hAI h (hR h 1210 v0) (v1).toNatClampNeg)) (hR h 1209 v0) (v1).toNatClampNeg)), none, none]) dX12_asked_169 c_12_229 rfl rfl rfl (Nat.le_of_ble_eq_true rfl) (Nat.le_of_ble_eq_true rfl) rfl (Nat.le_of_ble_eq_true rfl) rfl rfl g20 g1 k
        · replace k := k.2 c
          refine w_iload_n dX12_asked_148 rfl ?_
          refine w_goto (pc' := 158) dX12_asked_149 rfl rfl ?_
          obtain ⟨g21, k⟩ := k
          obtain ⟨g22, k⟩ := k
          refine w_iastore dX12_asked_158 g21 g22 ?_
          refine w_aload_n dX12_asked_159 rfl ?_
          refine w_iconst dX12_asked_160 i1_1 ?_
          refine w_iload_n dX12_asked_161 rfl ?_
          refine w_iload_n dX12_asked_162 rfl ?_
          refine w_aload_n dX12_asked_163 rfl ?_
          refine w_getR dX12_asked_164 f_12_32 t_12_9 g1 ?_
          refine w_iload_n dX12_asked_167 rfl ?_
          refine w_iaload dX12_asked_168 g4 g5 ?_
          obtain ⟨g23, k⟩ := k
          exact w_virt (as1 := [.int (hAI (sAI h (hR h 1210 v0) (v1).toNatClampNeg v2) (hR h 1209 v0) (v1).toNatClampNeg), .int v2, .int v1, .int (1 : Int32), .ref v0]) (as2 := [.ref v0, .int (1 : Int32), .int v1, .int v2, .int (hAI (sAI h (hR h 1210 v0) (v1).toNatClampNeg v2) (hR h 1209 v0) (v1).toNatClampNeg)]) (rest := []) (lo2 := [some (.ref v0), some (.int (1 : Int32)), some (.int v1), some (.int v2), some (.int (hAI (sAI h (hR h 1210 v0) (v1).toNatClampNeg v2) (hR h 1209 v0) (v1).toNatClampNeg)), none, none]) dX12_asked_169 c_12_229 rfl rfl rfl (Nat.le_of_ble_eq_true rfl) (Nat.le_of_ble_eq_true rfl) rfl (Nat.le_of_ble_eq_true rfl) rfl rfl g23 g1 k
      · replace k := k.2 c
        refine w_aload_n dX12_asked_113 rfl ?_
        refine w_iload_n dX12_asked_114 rfl ?_
        obtain ⟨g24, k⟩ := k
        exact w_virt (as1 := [.int v1, .ref v0]) (as2 := [.ref v0, .int v1]) (rest := []) (lo2 := [some (.ref v0), some (.int v1)]) dX12_asked_115 c_12_226 rfl rfl rfl (Nat.le_of_ble_eq_true rfl) (Nat.le_of_ble_eq_true rfl) rfl (Nat.le_of_ble_eq_true rfl) rfl rfl g24 g1 k
theorem bX12_asked_118 {d : Nat} {h : HP} {Q : Out → HP → Prop} {v0 : Nat} {v1 : Int32} {v2 : Int32} {v3 : Int32} {v4 : Int32} {v5 : Int32} {u6 : Option Value} {u7 : Option Value} {s0 : Int32} (k : ((s0 = 0) → (hK h v0 = 12) ∧ ((((1 : Int32) = 0) → (hK h (hR h 1210 v0) = 20) ∧ ((inA h (hR h 1210 v0) v1 = true) ∧ ((hK h (hR h 1209 v0) = 20) ∧ ((inA h (hR h 1209 v0) v1 = true) ∧ ((1 < v0) ∧ (WP d mX12_sends 0 [some (.ref v0), some (.int (1 : Int32)), some (.int v1), some (.int v2), some (.int (hAI (sAI h (hR h 1210 v0) (v1).toNatClampNeg (hAI h (hR h 1210 v0) (v1).toNatClampNeg)) (hR h 1209 v0) (v1).toNatClampNeg)), none, none] [] (sAI h (hR h 1210 v0) (v1).toNatClampNeg (hAI h (hR h 1210 v0) (v1).toNatClampNeg)) (KK d mX12_asked mX12_sends 169 [some (.ref v0), some (.int v1), some (.int v2), some (.int v3), some (.int v4), some (.int v5), some (.int (1 : Int32)), u7] [] Q))))))) ∧ ((¬ ((1 : Int32) = 0)) → (hK h (hR h 1210 v0) = 20) ∧ ((inA h (hR h 1210 v0) v1 = true) ∧ ((hK h (hR h 1209 v0) = 20) ∧ ((inA h (hR h 1209 v0) v1 = true) ∧ ((1 < v0) ∧ (WP d mX12_sends 0 [some (.ref v0), some (.int (1 : Int32)), some (.int v1), some (.int v2), some (.int (hAI (sAI h (hR h 1210 v0) (v1).toNatClampNeg v2) (hR h 1209 v0) (v1).toNatClampNeg)), none, none] [] (sAI h (hR h 1210 v0) (v1).toNatClampNeg v2) (KK d mX12_asked mX12_sends 169 [some (.ref v0), some (.int v1), some (.int v2), some (.int v3), some (.int v4), some (.int v5), some (.int (1 : Int32)), u7] [] Q))))))))) ∧ ((¬ (s0 = 0)) → (hK h v0 = 12) ∧ ((hK h (hR h 1225 v0) = 20) ∧ ((inA h (hR h 1225 v0) v1 = true) ∧ (((¬ (hAI h (hR h 1225 v0) (v1).toNatClampNeg) = v2) → (((0 : Int32) = 0) → (hK h (hR h 1210 v0) = 20) ∧ ((inA h (hR h 1210 v0) v1 = true) ∧ ((hK h (hR h 1209 v0) = 20) ∧ ((inA h (hR h 1209 v0) v1 = true) ∧ ((1 < v0) ∧ (WP d mX12_sends 0 [some (.ref v0), some (.int (1 : Int32)), some (.int v1), some (.int v2), some (.int (hAI (sAI h (hR h 1210 v0) (v1).toNatClampNeg (hAI h (hR h 1210 v0) (v1).toNatClampNeg)) (hR h 1209 v0) (v1).toNatClampNeg)), none, none] [] (sAI h (hR h 1210 v0) (v1).toNatClampNeg (hAI h (hR h 1210 v0) (v1).toNatClampNeg)) (KK d mX12_asked mX12_sends 169 [some (.ref v0), some (.int v1), some (.int v2), some (.int v3), some (.int v4), some (.int v5), some (.int (0 : Int32)), u7] [] Q))))))) ∧ ((¬ ((0 : Int32) = 0)) → (hK h (hR h 1210 v0) = 20) ∧ ((inA h (hR h 1210 v0) v1 = true) ∧ ((hK h (hR h 1209 v0) = 20) ∧ ((inA h (hR h 1209 v0) v1 = true) ∧ ((1 < v0) ∧ (WP d mX12_sends 0 [some (.ref v0), some (.int (1 : Int32)), some (.int v1), some (.int v2), some (.int (hAI (sAI h (hR h 1210 v0) (v1).toNatClampNeg v2) (hR h 1209 v0) (v1).toNatClampNeg)), none, none] [] (sAI h (hR h 1210 v0) (v1).toNatClampNeg v2) (KK d mX12_asked mX12_sends 169 [some (.ref v0), some (.int v1), some (.int v2), some (.int v3), some (.int v4), some (.int v5), some (.int (0 : Int32)), u7] [] Q)))))))) ∧ ((¬ (¬ (hAI h (hR h 1225 v0) (v1).toNatClampNeg) = v2)) → (((1 : Int32) = 0) → (hK h (hR h 1210 v0) = 20) ∧ ((inA h (hR h 1210 v0) v1 = true) ∧ ((hK h (hR h 1209 v0) = 20) ∧ ((inA h (hR h 1209 v0) v1 = true) ∧ ((1 < v0) ∧ (WP d mX12_sends 0 [some (.ref v0), some (.int (1 : Int32)), some (.int v1), some (.int v2), some (.int (hAI (sAI h (hR h 1210 v0) (v1).toNatClampNeg (hAI h (hR h 1210 v0) (v1).toNatClampNeg)) (hR h 1209 v0) (v1).toNatClampNeg)), none, none] [] (sAI h (hR h 1210 v0) (v1).toNatClampNeg (hAI h (hR h 1210 v0) (v1).toNatClampNeg)) (KK d mX12_asked mX12_sends 169 [some (.ref v0), some (.int v1), some (.int v2), some (.int v3), some (.int v4), some (.int v5), some (.int (1 : Int32)), u7] [] Q))))))) ∧ ((¬ ((1 : Int32) = 0)) → (hK h (hR h 1210 v0) = 20) ∧ ((inA h (hR h 1210 v0) v1 = true) ∧ ((hK h (hR h 1209 v0) = 20) ∧ ((inA h (hR h 1209 v0) v1 = true) ∧ ((1 < v0) ∧ (WP d mX12_sends 0 [some (.ref v0), some (.int (1 : Int32)), some (.int v1), some (.int v2), some (.int (hAI (sAI h (hR h 1210 v0) (v1).toNatClampNeg v2) (hR h 1209 v0) (v1).toNatClampNeg)), none, none] [] (sAI h (hR h 1210 v0) (v1).toNatClampNeg v2) (KK d mX12_asked mX12_sends 169 [some (.ref v0), some (.int v1), some (.int v2), some (.int v3), some (.int v4), some (.int v5), some (.int (1 : Int32)), u7] [] Q))))))))))))) : WP (d + 1) mX12_asked 118 [some (.ref v0), some (.int v1), some (.int v2), some (.int v3), some (.int v4), some (.int v5), u6, u7] [.int s0] h Q := by
  refine w_if_eq (pc' := 131) dX12_asked_118 rfl rfl ⟨fun c => ?_, fun c => ?_⟩
  · replace k := k.1 c
    refine w_iconst dX12_asked_131 i1_1 ?_
    refine w_goto (pc' := 136) dX12_asked_132 rfl rfl ?_
    refine w_istore (lo' := [some (.ref v0), some (.int v1), some (.int v2), some (.int v3), some (.int v4), some (.int v5), some (.int (1 : Int32)), u7]) dX12_asked_136 (ltQ rfl) rfl ?_
    refine w_aload_n dX12_asked_138 rfl ?_
    obtain ⟨g1, k⟩ := k
    refine w_getR dX12_asked_139 f_12_36 t_12_10 g1 ?_
    refine w_iload_n dX12_asked_142 rfl ?_
    refine w_iload dX12_asked_143 rfl ?_
    refine w_if_eq (pc' := 152) dX12_asked_145 rfl rfl ⟨fun c => ?_, fun c => ?_⟩
    · replace k := k.1 c
      refine w_aload_n dX12_asked_152 rfl ?_
      refine w_getR dX12_asked_153 f_12_36 t_12_10 g1 ?_
      refine w_iload_n dX12_asked_156 rfl ?_
      obtain ⟨g2, k⟩ := k
      obtain ⟨g3, k⟩ := k
      refine w_iaload dX12_asked_157 g2 g3 ?_
      refine w_iastore dX12_asked_158 g2 g3 ?_
      refine w_aload_n dX12_asked_159 rfl ?_
      refine w_iconst dX12_asked_160 i1_1 ?_
      refine w_iload_n dX12_asked_161 rfl ?_
      refine w_iload_n dX12_asked_162 rfl ?_
      refine w_aload_n dX12_asked_163 rfl ?_
      refine w_getR dX12_asked_164 f_12_32 t_12_9 g1 ?_
      refine w_iload_n dX12_asked_167 rfl ?_
      obtain ⟨g4, k⟩ := k
      obtain ⟨g5, k⟩ := k
      refine w_iaload dX12_asked_168 g4 g5 ?_
      obtain ⟨g6, k⟩ := k
      exact w_virt (as1 := [.int (hAI (sAI h (hR h 1210 v0) (v1).toNatClampNeg (hAI h (hR h 1210 v0) (v1).toNatClampNeg)) (hR h 1209 v0) (v1).toNatClampNeg), .int v2, .int v1, .int (1 : Int32), .ref v0]) (as2 := [.ref v0, .int (1 : Int32), .int v1, .int v2, .int (hAI (sAI h (hR h 1210 v0) (v1).toNatClampNeg (hAI h (hR h 1210 v0) (v1).toNatClampNeg)) (hR h 1209 v0) (v1).toNatClampNeg)]) (rest := []) (lo2 := [some (.ref v0), some (.int (1 : Int32)), some (.int v1), some (.int v2), some (.int (hAI (sAI h (hR h 1210 v0) (v1).toNatClampNeg (hAI h (hR h 1210 v0) (v1).toNatClampNeg)) (hR h 1209 v0) (v1).toNatClampNeg)), none, none]) dX12_asked_169 c_12_229 rfl rfl rfl (Nat.le_of_ble_eq_true rfl) (Nat.le_of_ble_eq_true rfl) rfl (Nat.le_of_ble_eq_true rfl) rfl rfl g6 g1 k
    · replace k := k.2 c
      refine w_iload_n dX12_asked_148 rfl ?_
      refine w_goto (pc' := 158) dX12_asked_149 rfl rfl ?_
      obtain ⟨g7, k⟩ := k
      obtain ⟨g8, k⟩ := k
      refine w_iastore dX12_asked_158 g7 g8 ?_
      refine w_aload_n dX12_asked_159 rfl ?_
      refine w_iconst dX12_asked_160 i1_1 ?_
      refine w_iload_n dX12_asked_161 rfl ?_
      refine w_iload_n dX12_asked_162 rfl ?_
      refine w_aload_n dX12_asked_163 rfl ?_
      refine w_getR dX12_asked_164 f_12_32 t_12_9 g1 ?_
      refine w_iload_n dX12_asked_167 rfl ?_
      obtain ⟨g9, k⟩ := k
      obtain ⟨g10, k⟩ := k
      refine w_iaload dX12_asked_168 g9 g10 ?_
      obtain ⟨g11, k⟩ := k
      exact w_virt (as1 := [.int (hAI (sAI h (hR h 1210 v0) (v1).toNatClampNeg v2) (hR h 1209 v0) (v1).toNatClampNeg), .int v2, .int v1, .int (1 : Int32), .ref v0]) (as2 := [.ref v0, .int (1 : Int32), .int v1, .int v2, .int (hAI (sAI h (hR h 1210 v0) (v1).toNatClampNeg v2) (hR h 1209 v0) (v1).toNatClampNeg)]) (rest := []) (lo2 := [some (.ref v0), some (.int (1 : Int32)), some (.int v1), some (.int v2), some (.int (hAI (sAI h (hR h 1210 v0) (v1).toNatClampNeg v2) (hR h 1209 v0) (v1).toNatClampNeg)), none, none]) dX12_asked_169 c_12_229 rfl rfl rfl (Nat.le_of_ble_eq_true rfl) (Nat.le_of_ble_eq_true rfl) rfl (Nat.le_of_ble_eq_true rfl) rfl rfl g11 g1 k
  · replace k := k.2 c
    refine w_aload_n dX12_asked_121 rfl ?_
    obtain ⟨g12, k⟩ := k
    refine w_getR dX12_asked_122 f_12_81 t_12_25 g12 ?_
    refine w_iload_n dX12_asked_125 rfl ?_
    obtain ⟨g13, k⟩ := k
    obtain ⟨g14, k⟩ := k
    refine w_iaload dX12_asked_126 g13 g14 ?_
    refine w_iload_n dX12_asked_127 rfl ?_
    refine w_ic_ne (pc' := 135) dX12_asked_128 rfl rfl ⟨fun c => ?_, fun c => ?_⟩
    · replace k := k.1 c
      refine w_iconst dX12_asked_135 i1_0 ?_
      refine w_istore (lo' := [some (.ref v0), some (.int v1), some (.int v2), some (.int v3), some (.int v4), some (.int v5), some (.int (0 : Int32)), u7]) dX12_asked_136 (ltQ rfl) rfl ?_
      refine w_aload_n dX12_asked_138 rfl ?_
      refine w_getR dX12_asked_139 f_12_36 t_12_10 g12 ?_
      refine w_iload_n dX12_asked_142 rfl ?_
      refine w_iload dX12_asked_143 rfl ?_
      refine w_if_eq (pc' := 152) dX12_asked_145 rfl rfl ⟨fun c => ?_, fun c => ?_⟩
      · replace k := k.1 c
        refine w_aload_n dX12_asked_152 rfl ?_
        refine w_getR dX12_asked_153 f_12_36 t_12_10 g12 ?_
        refine w_iload_n dX12_asked_156 rfl ?_
        obtain ⟨g15, k⟩ := k
        obtain ⟨g16, k⟩ := k
        refine w_iaload dX12_asked_157 g15 g16 ?_
        refine w_iastore dX12_asked_158 g15 g16 ?_
        refine w_aload_n dX12_asked_159 rfl ?_
        refine w_iconst dX12_asked_160 i1_1 ?_
        refine w_iload_n dX12_asked_161 rfl ?_
        refine w_iload_n dX12_asked_162 rfl ?_
        refine w_aload_n dX12_asked_163 rfl ?_
        refine w_getR dX12_asked_164 f_12_32 t_12_9 g12 ?_
        refine w_iload_n dX12_asked_167 rfl ?_
        obtain ⟨g17, k⟩ := k
        obtain ⟨g18, k⟩ := k
        refine w_iaload dX12_asked_168 g17 g18 ?_
        obtain ⟨g19, k⟩ := k
        exact w_virt (as1 := [.int (hAI (sAI h (hR h 1210 v0) (v1).toNatClampNeg (hAI h (hR h 1210 v0) (v1).toNatClampNeg)) (hR h 1209 v0) (v1).toNatClampNeg), .int v2, .int v1, .int (1 : Int32), .ref v0]) (as2 := [.ref v0, .int (1 : Int32), .int v1, .int v2, .int (hAI (sAI h (hR h 1210 v0) (v1).toNatClampNeg (hAI h (hR h 1210 v0) (v1).toNatClampNeg)) (hR h 1209 v0) (v1).toNatClampNeg)]) (rest := []) (lo2 := [some (.ref v0), some (.int (1 : Int32)), some (.int v1), some (.int v2), some (.int (hAI (sAI h (hR h 1210 v0) (v1).toNatClampNeg (hAI h (hR h 1210 v0) (v1).toNatClampNeg)) (hR h 1209 v0) (v1).toNatClampNeg)), none, none]) dX12_asked_169 c_12_229 rfl rfl rfl (Nat.le_of_ble_eq_true rfl) (Nat.le_of_ble_eq_true rfl) rfl (Nat.le_of_ble_eq_true rfl) rfl rfl g19 g12 k
      · replace k := k.2 c
        refine w_iload_n dX12_asked_148 rfl ?_
        refine w_goto (pc' := 158) dX12_asked_149 rfl rfl ?_
        obtain ⟨g20, k⟩ := k
        obtain ⟨g21, k⟩ := k
        refine w_iastore dX12_asked_158 g20 g21 ?_
        refine w_aload_n dX12_asked_159 rfl ?_
        refine w_iconst dX12_asked_160 i1_1 ?_
        refine w_iload_n dX12_asked_161 rfl ?_
        refine w_iload_n dX12_asked_162 rfl ?_
        refine w_aload_n dX12_asked_163 rfl ?_
        refine w_getR dX12_asked_164 f_12_32 t_12_9 g12 ?_
        refine w_iload_n dX12_asked_167 rfl ?_
        obtain ⟨g22, k⟩ := k
        obtain ⟨g23, k⟩ := k
        refine w_iaload dX12_asked_168 g22 g23 ?_
        obtain ⟨g24, k⟩ := k
        exact w_virt (as1 := [.int (hAI (sAI h (hR h 1210 v0) (v1).toNatClampNeg v2) (hR h 1209 v0) (v1).toNatClampNeg), .int v2, .int v1, .int (1 : Int32), .ref v0]) (as2 := [.ref v0, .int (1 : Int32), .int v1, .int v2, .int (hAI (sAI h (hR h 1210 v0) (v1).toNatClampNeg v2) (hR h 1209 v0) (v1).toNatClampNeg)]) (rest := []) (lo2 := [some (.ref v0), some (.int (1 : Int32)), some (.int v1), some (.int v2), some (.int (hAI (sAI h (hR h 1210 v0) (v1).toNatClampNeg v2) (hR h 1209 v0) (v1).toNatClampNeg)), none, none]) dX12_asked_169 c_12_229 rfl rfl rfl (Nat.le_of_ble_eq_true rfl) (Nat.le_of_ble_eq_true rfl) rfl (Nat.le_of_ble_eq_true rfl) rfl rfl g24 g12 k
    · replace k := k.2 c
      refine w_iconst dX12_asked_131 i1_1 ?_
      refine w_goto (pc' := 136) dX12_asked_132 rfl rfl ?_
      refine w_istore (lo' := [some (.ref v0), some (.int v1), some (.int v2), some (.int v3), some (.int v4), some (.int v5), some (.int (1 : Int32)), u7]) dX12_asked_136 (ltQ rfl) rfl ?_
      refine w_aload_n dX12_asked_138 rfl ?_
      refine w_getR dX12_asked_139 f_12_36 t_12_10 g12 ?_
      refine w_iload_n dX12_asked_142 rfl ?_
      refine w_iload dX12_asked_143 rfl ?_
      refine w_if_eq (pc' := 152) dX12_asked_145 rfl rfl ⟨fun c => ?_, fun c => ?_⟩
      · replace k := k.1 c
        refine w_aload_n dX12_asked_152 rfl ?_
        refine w_getR dX12_asked_153 f_12_36 t_12_10 g12 ?_
        refine w_iload_n dX12_asked_156 rfl ?_
        obtain ⟨g25, k⟩ := k
        obtain ⟨g26, k⟩ := k
        refine w_iaload dX12_asked_157 g25 g26 ?_
        refine w_iastore dX12_asked_158 g25 g26 ?_
        refine w_aload_n dX12_asked_159 rfl ?_
        refine w_iconst dX12_asked_160 i1_1 ?_
        refine w_iload_n dX12_asked_161 rfl ?_
        refine w_iload_n dX12_asked_162 rfl ?_
        refine w_aload_n dX12_asked_163 rfl ?_
        refine w_getR dX12_asked_164 f_12_32 t_12_9 g12 ?_
        refine w_iload_n dX12_asked_167 rfl ?_
        obtain ⟨g27, k⟩ := k
        obtain ⟨g28, k⟩ := k
        refine w_iaload dX12_asked_168 g27 g28 ?_
        obtain ⟨g29, k⟩ := k
        exact w_virt (as1 := [.int (hAI (sAI h (hR h 1210 v0) (v1).toNatClampNeg (hAI h (hR h 1210 v0) (v1).toNatClampNeg)) (hR h 1209 v0) (v1).toNatClampNeg), .int v2, .int v1, .int (1 : Int32), .ref v0]) (as2 := [.ref v0, .int (1 : Int32), .int v1, .int v2, .int (hAI (sAI h (hR h 1210 v0) (v1).toNatClampNeg (hAI h (hR h 1210 v0) (v1).toNatClampNeg)) (hR h 1209 v0) (v1).toNatClampNeg)]) (rest := []) (lo2 := [some (.ref v0), some (.int (1 : Int32)), some (.int v1), some (.int v2), some (.int (hAI (sAI h (hR h 1210 v0) (v1).toNatClampNeg (hAI h (hR h 1210 v0) (v1).toNatClampNeg)) (hR h 1209 v0) (v1).toNatClampNeg)), none, none]) dX12_asked_169 c_12_229 rfl rfl rfl (Nat.le_of_ble_eq_true rfl) (Nat.le_of_ble_eq_true rfl) rfl (Nat.le_of_ble_eq_true rfl) rfl rfl g29 g12 k
      · replace k := k.2 c
        refine w_iload_n dX12_asked_148 rfl ?_
        refine w_goto (pc' := 158) dX12_asked_149 rfl rfl ?_
        obtain ⟨g30, k⟩ := k
        obtain ⟨g31, k⟩ := k
        refine w_iastore dX12_asked_158 g30 g31 ?_
        refine w_aload_n dX12_asked_159 rfl ?_
        refine w_iconst dX12_asked_160 i1_1 ?_
        refine w_iload_n dX12_asked_161 rfl ?_
        refine w_iload_n dX12_asked_162 rfl ?_
        refine w_aload_n dX12_asked_163 rfl ?_
        refine w_getR dX12_asked_164 f_12_32 t_12_9 g12 ?_
        refine w_iload_n dX12_asked_167 rfl ?_
        obtain ⟨g32, k⟩ := k
        obtain ⟨g33, k⟩ := k
        refine w_iaload dX12_asked_168 g32 g33 ?_
        obtain ⟨g34, k⟩ := k
        exact w_virt (as1 := [.int (hAI (sAI h (hR h 1210 v0) (v1).toNatClampNeg v2) (hR h 1209 v0) (v1).toNatClampNeg), .int v2, .int v1, .int (1 : Int32), .ref v0]) (as2 := [.ref v0, .int (1 : Int32), .int v1, .int v2, .int (hAI (sAI h (hR h 1210 v0) (v1).toNatClampNeg v2) (hR h 1209 v0) (v1).toNatClampNeg)]) (rest := []) (lo2 := [some (.ref v0), some (.int (1 : Int32)), some (.int v1), some (.int v2), some (.int (hAI (sAI h (hR h 1210 v0) (v1).toNatClampNeg v2) (hR h 1209 v0) (v1).toNatClampNeg)), none, none]) dX12_asked_169 c_12_229 rfl rfl rfl (Nat.le_of_ble_eq_true rfl) (Nat.le_of_ble_eq_true rfl) rfl (Nat.le_of_ble_eq_true rfl) rfl rfl g34 g12 k
theorem bX12_asked_172 {d : Nat} {h : HP} {Q : Out → HP → Prop} {v0 : Nat} {v1 : Int32} {v2 : Int32} {v3 : Int32} {v4 : Int32} {v5 : Int32} {v6 : Int32} {u7 : Option Value} {s0 : Int32} (k : ((s0 = (-1 : Int32)) → Q (.inl none) h) ∧ ((¬ (s0 = (-1 : Int32))) → (hK h v0 = 12) ∧ (((v6 = 0) → (hK h (hR h 1237 v0) = 20) ∧ ((inA h (hR h 1237 v0) (s0 + (7 : Int32)) = true) ∧ (Q (.inl none) (sAI h (hR h 1237 v0) ((s0 + (7 : Int32))).toNatClampNeg (0 : Int32))))) ∧ ((¬ (v6 = 0)) → (hK h (hR h 1237 v0) = 20) ∧ ((inA h (hR h 1237 v0) (s0 + (7 : Int32)) = true) ∧ (Q (.inl none) (sAI h (hR h 1237 v0) ((s0 + (7 : Int32))).toNatClampNeg (1 : Int32)))))))) : WP d mX12_asked 172 [some (.ref v0), some (.int v1), some (.int v2), some (.int v3), some (.int v4), some (.int v5), some (.int v6), u7] [.int s0] h Q := by
  refine w_istore (lo' := [some (.ref v0), some (.int v1), some (.int v2), some (.int v3), some (.int v4), some (.int v5), some (.int v6), some (.int s0)]) dX12_asked_172 (ltQ rfl) rfl ?_
  refine w_iload dX12_asked_174 rfl ?_
  refine w_iconst dX12_asked_176 i1_m1 ?_
  refine w_ic_eq (pc' := 200) dX12_asked_177 rfl rfl ⟨fun c => ?_, fun c => ?_⟩
  · replace k := k.1 c
    exact w_return dX12_asked_200 rfl k
  · replace k := k.2 c
    refine w_aload_n dX12_asked_180 rfl ?_
    obtain ⟨g1, k⟩ := k
    refine w_getR dX12_asked_181 f_12_117 t_12_37 g1 ?_
    refine w_iload dX12_asked_184 rfl ?_
    refine w_bipush dX12_asked_186 i2_7 ?_
    refine w_iadd dX12_asked_188 ?_
    refine w_iload dX12_asked_189 rfl ?_
    refine w_if_eq (pc' := 198) dX12_asked_191 rfl rfl ⟨fun c => ?_, fun c => ?_⟩
    · replace k := k.1 c
      refine w_iconst dX12_asked_198 i1_0 ?_
      obtain ⟨g2, k⟩ := k
      obtain ⟨g3, k⟩ := k
      refine w_iastore dX12_asked_199 g2 g3 ?_
      exact w_return dX12_asked_200 rfl k
    · replace k := k.2 c
      refine w_iconst dX12_asked_194 i1_1 ?_
      refine w_goto (pc' := 199) dX12_asked_195 rfl rfl ?_
      obtain ⟨g4, k⟩ := k
      obtain ⟨g5, k⟩ := k
      refine w_iastore dX12_asked_199 g4 g5 ?_
      exact w_return dX12_asked_200 rfl k
theorem bX12_voted_0 {d : Nat} {h : HP} {Q : Out → HP → Prop} {v0 : Nat} {v1 : Int32} {u2 : Option Value} (k : (hK h v0 = 12) ∧ ((hK h (hR h 1211 v0) = 20) ∧ ((inA h (hR h 1211 v0) v1 = true) ∧ (((¬ (hAI h (hR h 1211 v0) (v1).toNatClampNeg) = (1 : Int32)) → Q (.inl none) h) ∧ ((¬ (¬ (hAI h (hR h 1211 v0) (v1).toNatClampNeg) = (1 : Int32))) → (hK h (hR h 1249 v0) = 20) ∧ ((inA h (hR h 1249 v0) (3 : Int32) = true) ∧ ((hK h (hR h 1209 v0) = 20) ∧ ((inA h (hR h 1209 v0) v1 = true) ∧ (((¬ (hAI h (hR h 1249 v0) ((3 : Int32)).toNatClampNeg) = (hAI h (hR h 1209 v0) (v1).toNatClampNeg)) → Q (.inl none) h) ∧ ((¬ (¬ (hAI h (hR h 1249 v0) ((3 : Int32)).toNatClampNeg) = (hAI h (hR h 1209 v0) (v1).toNatClampNeg))) → (inA h (hR h 1249 v0) (7 : Int32) = true) ∧ (((¬ (hAI h (hR h 1249 v0) ((7 : Int32)).toNatClampNeg) = 0) → (hK h (hR h 1218 v0) = 20) ∧ ((inA h (hR h 1218 v0) v1 = true) ∧ ((inA h (hR h 1249 v0) (1 : Int32) = true) ∧ (WP d mX12_bits 0 [some (.int (hAI (sAI h (hR h 1218 v0) (v1).toNatClampNeg ((hAI h (hR h 1218 v0) (v1).toNatClampNeg) ||| ((1 : Int32) <<< ((hAI h (hR h 1249 v0) ((1 : Int32)).toNatClampNeg) &&& 31)))) (hR h 1218 v0) (v1).toNatClampNeg)), none, none] [] (sAI h (hR h 1218 v0) (v1).toNatClampNeg ((hAI h (hR h 1218 v0) (v1).toNatClampNeg) ||| ((1 : Int32) <<< ((hAI h (hR h 1249 v0) ((1 : Int32)).toNatClampNeg) &&& 31)))) (KK d mX12_voted mX12_bits 59 [some (.ref v0), some (.int v1), u2] [] Q))))) ∧ ((¬ (¬ (hAI h (hR h 1249 v0) ((7 : Int32)).toNatClampNeg) = 0)) → Q (.inl none) h)))))))))))) : WP (d + 1) mX12_voted 0 [some (.ref v0), some (.int v1), u2] [] h Q := by
  refine w_aload_n dX12_voted_0 rfl ?_
  obtain ⟨g1, k⟩ := k
  refine w_getR dX12_voted_1 f_12_39 t_12_11 g1 ?_
  refine w_iload_n dX12_voted_4 rfl ?_
  obtain ⟨g2, k⟩ := k
  obtain ⟨g3, k⟩ := k
  refine w_iaload dX12_voted_5 g2 g3 ?_
  refine w_iconst dX12_voted_6 i1_1 ?_
  refine w_ic_ne (pc' := 35) dX12_voted_7 rfl rfl ⟨fun c => ?_, fun c => ?_⟩
  · replace k := k.1 c
    exact w_return dX12_voted_35 rfl k
  · replace k := k.2 c
    refine w_aload_n dX12_voted_10 rfl ?_
    refine w_getR dX12_voted_11 f_12_144 t_12_49 g1 ?_
    refine w_iconst dX12_voted_14 i1_3 ?_
    obtain ⟨g4, k⟩ := k
    obtain ⟨g5, k⟩ := k
    refine w_iaload dX12_voted_15 g4 g5 ?_
    refine w_aload_n dX12_voted_16 rfl ?_
    refine w_getR dX12_voted_17 f_12_32 t_12_9 g1 ?_
    refine w_iload_n dX12_voted_20 rfl ?_
    obtain ⟨g6, k⟩ := k
    obtain ⟨g7, k⟩ := k
    refine w_iaload dX12_voted_21 g6 g7 ?_
    refine w_ic_ne (pc' := 35) dX12_voted_22 rfl rfl ⟨fun c => ?_, fun c => ?_⟩
    · replace k := k.1 c
      exact w_return dX12_voted_35 rfl k
    · replace k := k.2 c
      refine w_aload_n dX12_voted_25 rfl ?_
      refine w_getR dX12_voted_26 f_12_144 t_12_49 g1 ?_
      refine w_bipush dX12_voted_29 i2_7 ?_
      obtain ⟨g8, k⟩ := k
      refine w_iaload dX12_voted_31 g4 g8 ?_
      refine w_if_ne (pc' := 36) dX12_voted_32 rfl rfl ⟨fun c => ?_, fun c => ?_⟩
      · replace k := k.1 c
        refine w_aload_n dX12_voted_36 rfl ?_
        refine w_getR dX12_voted_37 f_12_60 t_12_18 g1 ?_
        refine w_iload_n dX12_voted_40 rfl ?_
        refine w_dup2 dX12_voted_41 rfl rfl ?_
        obtain ⟨g9, k⟩ := k
        obtain ⟨g10, k⟩ := k
        refine w_iaload dX12_voted_42 g9 g10 ?_
        refine w_iconst dX12_voted_43 i1_1 ?_
        refine w_aload_n dX12_voted_44 rfl ?_
        refine w_getR dX12_voted_45 f_12_144 t_12_49 g1 ?_
        refine w_iconst dX12_voted_48 i1_1 ?_
        obtain ⟨g11, k⟩ := k
        refine w_iaload dX12_voted_49 g4 g11 ?_
        refine w_ishl dX12_voted_50 ?_
        refine w_ior dX12_voted_51 ?_
        refine w_iastore dX12_voted_52 g9 g10 ?_
        refine w_aload_n dX12_voted_53 rfl ?_
        refine w_getR dX12_voted_54 f_12_60 t_12_18 g1 ?_
        refine w_iload_n dX12_voted_57 rfl ?_
        refine w_iaload dX12_voted_58 g9 g10 ?_
        exact w_stat (as1 := [.int (hAI (sAI h (hR h 1218 v0) (v1).toNatClampNeg ((hAI h (hR h 1218 v0) (v1).toNatClampNeg) ||| ((1 : Int32) <<< ((hAI h (hR h 1249 v0) ((1 : Int32)).toNatClampNeg) &&& 31)))) (hR h 1218 v0) (v1).toNatClampNeg)]) (as2 := [.int (hAI (sAI h (hR h 1218 v0) (v1).toNatClampNeg ((hAI h (hR h 1218 v0) (v1).toNatClampNeg) ||| ((1 : Int32) <<< ((hAI h (hR h 1249 v0) ((1 : Int32)).toNatClampNeg) &&& 31)))) (hR h 1218 v0) (v1).toNatClampNeg)]) (rest := []) (lo2 := [some (.int (hAI (sAI h (hR h 1218 v0) (v1).toNatClampNeg ((hAI h (hR h 1218 v0) (v1).toNatClampNeg) ||| ((1 : Int32) <<< ((hAI h (hR h 1249 v0) ((1 : Int32)).toNatClampNeg) &&& 31)))) (hR h 1218 v0) (v1).toNatClampNeg)), none, none]) dX12_voted_59 c_12_237 rfl rfl rfl (Nat.le_of_ble_eq_true rfl) (Nat.le_of_ble_eq_true rfl) rfl (Nat.le_of_ble_eq_true rfl) rfl k
      · replace k := k.2 c
        exact w_return dX12_voted_35 rfl k
theorem bX12_voted_62 {d : Nat} {h : HP} {Q : Out → HP → Prop} {v0 : Nat} {v1 : Int32} {u2 : Option Value} {s0 : Int32} (k : (1 < v0) ∧ ((hK h v0 = 12) ∧ (WP d mX12_most 0 [some (.ref v0)] [] h (KK d mX12_voted mX12_most 63 [some (.ref v0), some (.int v1), u2] [.int s0] Q)))) : WP (d + 1) mX12_voted 62 [some (.ref v0), some (.int v1), u2] [.int s0] h Q := by
  refine w_aload_n dX12_voted_62 rfl ?_
  obtain ⟨g1, k⟩ := k
  obtain ⟨g2, k⟩ := k
  exact w_virt (as1 := [.ref v0]) (as2 := [.ref v0]) (rest := [.int s0]) (lo2 := [some (.ref v0)]) dX12_voted_63 c_12_241 rfl rfl rfl (Nat.le_of_ble_eq_true rfl) (Nat.le_of_ble_eq_true rfl) rfl (Nat.le_of_ble_eq_true rfl) rfl rfl g1 g2 k
theorem bX12_voted_66 {d : Nat} {h : HP} {Q : Out → HP → Prop} {v0 : Nat} {v1 : Int32} {u2 : Option Value} {s0 : Int32} {s1 : Int32} (k : ((s1 < s0) → Q (.inl none) h) ∧ ((¬ (s1 < s0)) → (hK h v0 = 12) ∧ ((hK h (hR h 1211 v0) = 20) ∧ ((inA h (hR h 1211 v0) v1 = true) ∧ ((hK h (hR h 1223 v0) = 21) ∧ ((inA h (hR h 1223 v0) v1 = true) ∧ (WP d mX12_voted 85 [some (.ref v0), some (.int v1), some (.int (0 : Int32))] [] (sAI (sAI h (hR h 1211 v0) (v1).toNatClampNeg (2 : Int32)) (hR h 1223 v0) (v1).toNatClampNeg (0 : Int32)) Q))))))) : WP d mX12_voted 66 [some (.ref v0), some (.int v1), u2] [.int s0, .int s1] h Q := by
  refine w_ic_lt (pc' := 134) dX12_voted_66 rfl rfl ⟨fun c => ?_, fun c => ?_⟩
  · replace k := k.1 c
    exact w_return dX12_voted_134 rfl k
  · replace k := k.2 c
    refine w_aload_n dX12_voted_69 rfl ?_
    obtain ⟨g1, k⟩ := k
    refine w_getR dX12_voted_70 f_12_39 t_12_11 g1 ?_
    refine w_iload_n dX12_voted_73 rfl ?_
    refine w_iconst dX12_voted_74 i1_2 ?_
    obtain ⟨g2, k⟩ := k
    obtain ⟨g3, k⟩ := k
    refine w_iastore dX12_voted_75 g2 g3 ?_
    refine w_aload_n dX12_voted_76 rfl ?_
    refine w_getR dX12_voted_77 f_12_75 t_12_23 g1 ?_
    refine w_iload_n dX12_voted_80 rfl ?_
    refine w_iconst dX12_voted_81 i1_0 ?_
    obtain ⟨g4, k⟩ := k
    obtain ⟨g5, k⟩ := k
    refine w_bastore dX12_voted_82 g4 g5 rfl ?_
    refine w_iconst dX12_voted_83 i1_0 ?_
    refine w_istore_n (lo' := [some (.ref v0), some (.int v1), some (.int (0 : Int32))]) dX12_voted_84 (ltQ rfl) rfl ?_
    exact k
theorem bX12_voted_85 {d : Nat} {h : HP} {Q : Out → HP → Prop} {v0 : Nat} {v1 : Int32} {v2 : Int32} (k : (((5 : Int32) ≤ v2) → Q (.inl none) h) ∧ ((¬ ((5 : Int32) ≤ v2)) → (hK h v0 = 12) ∧ ((hK h (hR h 1212 v0) = 20) ∧ ((inA h (hR h 1212 v0) v1 = true) ∧ ((hK h (hR h 1219 v0) = 20) ∧ ((inA h (hR h 1219 v0) (((5 : Int32) * v1) + v2) = true) ∧ ((hK h (hR h 1220 v0) = 20) ∧ ((inA h (hR h 1220 v0) (((5 : Int32) * v1) + v2) = true) ∧ ((hK h (hR h 1221 v0) = 21) ∧ ((inA h (hR h 1221 v0) (((5 : Int32) * v1) + v2) = true) ∧ (WP d mX12_voted 85 [some (.ref v0), some (.int v1), some (.int (v2 + (1 : Int32)))] [] (sAI (sAI (sAI h (hR h 1219 v0) ((((5 : Int32) * v1) + v2)).toNatClampNeg (hAI h (hR h 1212 v0) (v1).toNatClampNeg)) (hR h 1220 v0) ((((5 : Int32) * v1) + v2)).toNatClampNeg (0 : Int32)) (hR h 1221 v0) ((((5 : Int32) * v1) + v2)).toNatClampNeg (0 : Int32)) Q))))))))))) : WP d mX12_voted 85 [some (.ref v0), some (.int v1), some (.int v2)] [] h Q := by
  refine w_iload_n dX12_voted_85 rfl ?_
  refine w_iconst dX12_voted_86 i1_5 ?_
  refine w_ic_ge (pc' := 134) dX12_voted_87 rfl rfl ⟨fun c => ?_, fun c => ?_⟩
  · replace k := k.1 c
    exact w_return dX12_voted_134 rfl k
  · replace k := k.2 c
    refine w_aload_n dX12_voted_90 rfl ?_
    obtain ⟨g1, k⟩ := k
    refine w_getR dX12_voted_91 f_12_63 t_12_19 g1 ?_
    refine w_iconst dX12_voted_94 i1_5 ?_
    refine w_iload_n dX12_voted_95 rfl ?_
    refine w_imul dX12_voted_96 ?_
    refine w_iload_n dX12_voted_97 rfl ?_
    refine w_iadd dX12_voted_98 ?_
    refine w_aload_n dX12_voted_99 rfl ?_
    refine w_getR dX12_voted_100 f_12_42 t_12_12 g1 ?_
    refine w_iload_n dX12_voted_103 rfl ?_
    obtain ⟨g2, k⟩ := k
    obtain ⟨g3, k⟩ := k
    refine w_iaload dX12_voted_104 g2 g3 ?_
    obtain ⟨g4, k⟩ := k
    obtain ⟨g5, k⟩ := k
    refine w_iastore dX12_voted_105 g4 g5 ?_
    refine w_aload_n dX12_voted_106 rfl ?_
    refine w_getR dX12_voted_107 f_12_66 t_12_20 g1 ?_
    refine w_iconst dX12_voted_110 i1_5 ?_
    refine w_iload_n dX12_voted_111 rfl ?_
    refine w_imul dX12_voted_112 ?_
    refine w_iload_n dX12_voted_113 rfl ?_
    refine w_iadd dX12_voted_114 ?_
    refine w_iconst dX12_voted_115 i1_0 ?_
    obtain ⟨g6, k⟩ := k
    obtain ⟨g7, k⟩ := k
    refine w_iastore dX12_voted_116 g6 g7 ?_
    refine w_aload_n dX12_voted_117 rfl ?_
    refine w_getR dX12_voted_118 f_12_69 t_12_21 g1 ?_
    refine w_iconst dX12_voted_121 i1_5 ?_
    refine w_iload_n dX12_voted_122 rfl ?_
    refine w_imul dX12_voted_123 ?_
    refine w_iload_n dX12_voted_124 rfl ?_
    refine w_iadd dX12_voted_125 ?_
    refine w_iconst dX12_voted_126 i1_0 ?_
    obtain ⟨g8, k⟩ := k
    obtain ⟨g9, k⟩ := k
    refine w_bastore dX12_voted_127 g8 g9 rfl ?_
    refine w_iinc (lo' := [some (.ref v0), some (.int v1), some (.int (v2 + (1 : Int32)))]) dX12_voted_128 rfl i1_1 rfl ?_
    refine w_goto (pc' := 85) dX12_voted_131 rfl rfl ?_
    exact k
theorem bX12_beat_0 {d : Nat} {h : HP} {Q : Out → HP → Prop} {v0 : Nat} {v1 : Int32} {u2 : Option Value} {u3 : Option Value} {u4 : Option Value} {u5 : Option Value} {u6 : Option Value} {u7 : Option Value} {u8 : Option Value} {u9 : Option Value} {u10 : Option Value} (k : (1 < v0) ∧ ((hK h v0 = 12) ∧ (WP d mX12_isMachine 0 [some (.ref v0), some (.int v1)] [] h (KK d mX12_beat mX12_isMachine 2 [some (.ref v0), some (.int v1), u2, u3, u4, u5, u6, u7, u8, u9, u10] [] Q)))) : WP (d + 1) mX12_beat 0 [some (.ref v0), some (.int v1), u2, u3, u4, u5, u6, u7, u8, u9, u10] [] h Q := by
  refine w_aload_n dX12_beat_0 rfl ?_
  refine w_iload_n dX12_beat_1 rfl ?_
  obtain ⟨g1, k⟩ := k
  obtain ⟨g2, k⟩ := k
  exact w_virt (as1 := [.int v1, .ref v0]) (as2 := [.ref v0, .int v1]) (rest := []) (lo2 := [some (.ref v0), some (.int v1)]) dX12_beat_2 c_12_181 rfl rfl rfl (Nat.le_of_ble_eq_true rfl) (Nat.le_of_ble_eq_true rfl) rfl (Nat.le_of_ble_eq_true rfl) rfl rfl g1 g2 k
theorem bX12_beat_5 {d : Nat} {h : HP} {Q : Out → HP → Prop} {v0 : Nat} {v1 : Int32} {u2 : Option Value} {u3 : Option Value} {u4 : Option Value} {u5 : Option Value} {u6 : Option Value} {u7 : Option Value} {u8 : Option Value} {u9 : Option Value} {u10 : Option Value} {s0 : Int32} (k : ((s0 = 0) → (1 < v0) ∧ ((hK h v0 = 12) ∧ (WP d mX12_goes 0 [some (.ref v0), some (.int s0), some (.int (0 : Int32)), some (.int (1 : Int32))] [] h (KK d mX12_beat mX12_goes 37 [some (.ref v0), some (.int v1), some (.int s0), u3, u4, u5, u6, u7, u8, u9, u10] [] Q)))) ∧ ((¬ (s0 = 0)) → (hK h v0 = 12) ∧ ((hK h (hR h 1205 v0) = 21) ∧ ((inA h (hR h 1205 v0) v1 = true) ∧ ((((hAI h (hR h 1205 v0) (v1).toNatClampNeg) = 0) → (1 < v0) ∧ (WP d mX12_goes 0 [some (.ref v0), some (.int s0), some (.int (0 : Int32)), some (.int (1 : Int32))] [] h (KK d mX12_beat mX12_goes 37 [some (.ref v0), some (.int v1), some (.int s0), u3, u4, u5, u6, u7, u8, u9, u10] [] Q))) ∧ ((¬ ((hAI h (hR h 1205 v0) (v1).toNatClampNeg) = 0)) → (hK h (hR h 1211 v0) = 20) ∧ ((inA h (hR h 1211 v0) v1 = true) ∧ (((¬ (hAI h (hR h 1211 v0) (v1).toNatClampNeg) = (2 : Int32)) → (1 < v0) ∧ (WP d mX12_goes 0 [some (.ref v0), some (.int s0), some (.int (0 : Int32)), some (.int (1 : Int32))] [] h (KK d mX12_beat mX12_goes 37 [some (.ref v0), some (.int v1), some (.int s0), u3, u4, u5, u6, u7, u8, u9, u10] [] Q))) ∧ ((¬ (¬ (hAI h (hR h 1211 v0) (v1).toNatClampNeg) = (2 : Int32))) → (1 < v0) ∧ (WP d mX12_goes 0 [some (.ref v0), some (.int s0), some (.int (1 : Int32)), some (.int (1 : Int32))] [] h (KK d mX12_beat mX12_goes 37 [some (.ref v0), some (.int v1), some (.int s0), u3, u4, u5, u6, u7, u8, u9, u10] [] Q))))))))))) : WP (d + 1) mX12_beat 5 [some (.ref v0), some (.int v1), u2, u3, u4, u5, u6, u7, u8, u9, u10] [.int s0] h Q := by
  refine w_istore_n (lo' := [some (.ref v0), some (.int v1), some (.int s0), u3, u4, u5, u6, u7, u8, u9, u10]) dX12_beat_5 (ltQ rfl) rfl ?_
  refine w_aload_n dX12_beat_6 rfl ?_
  refine w_iload_n dX12_beat_7 rfl ?_
  refine w_iload_n dX12_beat_8 rfl ?_
  refine w_if_eq (pc' := 35) dX12_beat_9 rfl rfl ⟨fun c => ?_, fun c => ?_⟩
  · replace k := k.1 c
    refine w_iconst dX12_beat_35 i1_0 ?_
    refine w_iconst dX12_beat_36 i1_1 ?_
    obtain ⟨g1, k⟩ := k
    obtain ⟨g2, k⟩ := k
    exact w_virt (as1 := [.int (1 : Int32), .int (0 : Int32), .int s0, .ref v0]) (as2 := [.ref v0, .int s0, .int (0 : Int32), .int (1 : Int32)]) (rest := []) (lo2 := [some (.ref v0), some (.int s0), some (.int (0 : Int32)), some (.int (1 : Int32))]) dX12_beat_37 c_12_173 rfl rfl rfl (Nat.le_of_ble_eq_true rfl) (Nat.le_of_ble_eq_true rfl) rfl (Nat.le_of_ble_eq_true rfl) rfl rfl g1 g2 k
  · replace k := k.2 c
    refine w_aload_n dX12_beat_12 rfl ?_
    obtain ⟨g3, k⟩ := k
    refine w_getR dX12_beat_13 f_12_18 t_12_5 g3 ?_
    refine w_iload_n dX12_beat_16 rfl ?_
    obtain ⟨g4, k⟩ := k
    obtain ⟨g5, k⟩ := k
    refine w_baload dX12_beat_17 g4 g5 ?_
    refine w_if_eq (pc' := 35) dX12_beat_18 rfl rfl ⟨fun c => ?_, fun c => ?_⟩
    · replace k := k.1 c
      refine w_iconst dX12_beat_35 i1_0 ?_
      refine w_iconst dX12_beat_36 i1_1 ?_
      obtain ⟨g6, k⟩ := k
      exact w_virt (as1 := [.int (1 : Int32), .int (0 : Int32), .int s0, .ref v0]) (as2 := [.ref v0, .int s0, .int (0 : Int32), .int (1 : Int32)]) (rest := []) (lo2 := [some (.ref v0), some (.int s0), some (.int (0 : Int32)), some (.int (1 : Int32))]) dX12_beat_37 c_12_173 rfl rfl rfl (Nat.le_of_ble_eq_true rfl) (Nat.le_of_ble_eq_true rfl) rfl (Nat.le_of_ble_eq_true rfl) rfl rfl g6 g3 k
    · replace k := k.2 c
      refine w_aload_n dX12_beat_21 rfl ?_
      refine w_getR dX12_beat_22 f_12_39 t_12_11 g3 ?_
      refine w_iload_n dX12_beat_25 rfl ?_
      obtain ⟨g7, k⟩ := k
      obtain ⟨g8, k⟩ := k
      refine w_iaload dX12_beat_26 g7 g8 ?_
      refine w_iconst dX12_beat_27 i1_2 ?_
      refine w_ic_ne (pc' := 35) dX12_beat_28 rfl rfl ⟨fun c => ?_, fun c => ?_⟩
      · replace k := k.1 c
        refine w_iconst dX12_beat_35 i1_0 ?_
        refine w_iconst dX12_beat_36 i1_1 ?_
        obtain ⟨g9, k⟩ := k
        exact w_virt (as1 := [.int (1 : Int32), .int (0 : Int32), .int s0, .ref v0]) (as2 := [.ref v0, .int s0, .int (0 : Int32), .int (1 : Int32)]) (rest := []) (lo2 := [some (.ref v0), some (.int s0), some (.int (0 : Int32)), some (.int (1 : Int32))]) dX12_beat_37 c_12_173 rfl rfl rfl (Nat.le_of_ble_eq_true rfl) (Nat.le_of_ble_eq_true rfl) rfl (Nat.le_of_ble_eq_true rfl) rfl rfl g9 g3 k
      · replace k := k.2 c
        refine w_iconst dX12_beat_31 i1_1 ?_
        refine w_goto (pc' := 36) dX12_beat_32 rfl rfl ?_
        refine w_iconst dX12_beat_36 i1_1 ?_
        obtain ⟨g10, k⟩ := k
        exact w_virt (as1 := [.int (1 : Int32), .int (1 : Int32), .int s0, .ref v0]) (as2 := [.ref v0, .int s0, .int (1 : Int32), .int (1 : Int32)]) (rest := []) (lo2 := [some (.ref v0), some (.int s0), some (.int (1 : Int32)), some (.int (1 : Int32))]) dX12_beat_37 c_12_173 rfl rfl rfl (Nat.le_of_ble_eq_true rfl) (Nat.le_of_ble_eq_true rfl) rfl (Nat.le_of_ble_eq_true rfl) rfl rfl g10 g3 k
theorem bX12_beat_40 {d : Nat} {h : HP} {Q : Out → HP → Prop} {v0 : Nat} {v1 : Int32} {v2 : Int32} {u3 : Option Value} {u4 : Option Value} {u5 : Option Value} {u6 : Option Value} {u7 : Option Value} {u8 : Option Value} {u9 : Option Value} {u10 : Option Value} {s0 : Int32} (k : ((¬ s0 = 0) → (hK h v0 = 12) ∧ (WP d mX12_beat 63 [some (.ref v0), some (.int v1), some (.int v2), some (.int v1), some (.int (0 : Int32)), some (.int (0 : Int32)), u6, u7, u8, u9, u10] [] (sI h 1204 v0 ((hI h 1204 v0) + (1 : Int32))) Q)) ∧ ((¬ (¬ s0 = 0)) → Q (.inl (some (.int (0 : Int32)))) h)) : WP d mX12_beat 40 [some (.ref v0), some (.int v1), some (.int v2), u3, u4, u5, u6, u7, u8, u9, u10] [.int s0] h Q := by
  refine w_if_ne (pc' := 45) dX12_beat_40 rfl rfl ⟨fun c => ?_, fun c => ?_⟩
  · replace k := k.1 c
    refine w_aload_n dX12_beat_45 rfl ?_
    refine w_dup dX12_beat_46 rfl ?_
    obtain ⟨g1, k⟩ := k
    refine w_getI dX12_beat_47 f_12_164 t_12_4 g1 ?_
    refine w_iconst dX12_beat_50 i1_1 ?_
    refine w_iadd dX12_beat_51 ?_
    refine w_putI dX12_beat_52 f_12_164 t_12_4 (pf_nf n_12_4) g1 ?_
    refine w_iload_n dX12_beat_55 rfl ?_
    refine w_istore_n (lo' := [some (.ref v0), some (.int v1), some (.int v2), some (.int v1), u4, u5, u6, u7, u8, u9, u10]) dX12_beat_56 (ltQ rfl) rfl ?_
    refine w_iconst dX12_beat_57 i1_0 ?_
    refine w_istore (lo' := [some (.ref v0), some (.int v1), some (.int v2), some (.int v1), some (.int (0 : Int32)), u5, u6, u7, u8, u9, u10]) dX12_beat_58 (ltQ rfl) rfl ?_
    refine w_iconst dX12_beat_60 i1_0 ?_
    refine w_istore (lo' := [some (.ref v0), some (.int v1), some (.int v2), some (.int v1), some (.int (0 : Int32)), some (.int (0 : Int32)), u6, u7, u8, u9, u10]) dX12_beat_61 (ltQ rfl) rfl ?_
    exact k
  · replace k := k.2 c
    refine w_iconst dX12_beat_43 i1_0 ?_
    exact w_ireturn dX12_beat_44 rfl k
theorem bX12_beat_63 {d : Nat} {h : HP} {Q : Out → HP → Prop} {v0 : Nat} {v1 : Int32} {v2 : Int32} {v3 : Int32} {v4 : Int32} {v5 : Int32} {u6 : Option Value} {u7 : Option Value} {u8 : Option Value} {u9 : Option Value} {u10 : Option Value} (k : (hK h v0 = 12) ∧ ((((hI h 1200 v0) ≤ v5) → (1 < v0) ∧ (WP d mX12_ends 0 [some (.ref v0), none] [] h (KK d mX12_beat mX12_ends 342 [some (.ref v0), some (.int v1), some (.int v2), some (.int v3), some (.int v4), some (.int v5), u6, u7, u8, u9, u10] [] Q))) ∧ ((¬ ((hI h 1200 v0) ≤ v5)) → ((v5 = v3) → WP (d + 1) mX12_beat 63 [some (.ref v0), some (.int v1), some (.int v2), some (.int v3), some (.int v4), some (.int (v5 + (1 : Int32))), u6, u7, u8, u9, u10] [] h Q) ∧ ((¬ (v5 = v3)) → (hK h (hR h 1219 v0) = 20) ∧ ((inA h (hR h 1219 v0) (((5 : Int32) * v3) + v5) = true) ∧ ((hK h (hR h 1212 v0) = 20) ∧ ((inA h (hR h 1212 v0) v3 = true) ∧ (((((hAI h (hR h 1212 v0) (v3).toNatClampNeg) - (hAI h (hR h 1219 v0) ((((5 : Int32) * v3) + v5)).toNatClampNeg)) ≤ (3 : Int32)) → (hK h (hR h 1209 v0) = 20) ∧ ((inA h (hR h 1209 v0) v3 = true) ∧ ((1 < v0) ∧ (WP d mX12_sends 0 [some (.ref v0), some (.int (2 : Int32)), some (.int v3), some (.int v5), some (.int (hAI h (hR h 1209 v0) (v3).toNatClampNeg)), none, none] [] h (KK d mX12_beat mX12_sends 130 [some (.ref v0), some (.int v1), some (.int v2), some (.int v3), some (.int v4), some (.int v5), some (.int (hAI h (hR h 1219 v0) ((((5 : Int32) * v3) + v5)).toNatClampNeg)), some (.int ((hAI h (hR h 1212 v0) (v3).toNatClampNeg) - (hAI h (hR h 1219 v0) ((((5 : Int32) * v3) + v5)).toNatClampNeg))), u8, u9, u10] [] Q))))) ∧ ((¬ (((hAI h (hR h 1212 v0) (v3).toNatClampNeg) - (hAI h (hR h 1219 v0) ((((5 : Int32) * v3) + v5)).toNatClampNeg)) ≤ (3 : Int32))) → (hK h (hR h 1209 v0) = 20) ∧ ((inA h (hR h 1209 v0) v3 = true) ∧ ((1 < v0) ∧ (WP d mX12_sends 0 [some (.ref v0), some (.int (2 : Int32)), some (.int v3), some (.int v5), some (.int (hAI h (hR h 1209 v0) (v3).toNatClampNeg)), none, none] [] h (KK d mX12_beat mX12_sends 130 [some (.ref v0), some (.int v1), some (.int v2), some (.int v3), some (.int v4), some (.int v5), some (.int (hAI h (hR h 1219 v0) ((((5 : Int32) * v3) + v5)).toNatClampNeg)), some (.int (3 : Int32)), u8, u9, u10] [] Q))))))))))))) : WP (d + 1) mX12_beat 63 [some (.ref v0), some (.int v1), some (.int v2), some (.int v3), some (.int v4), some (.int v5), u6, u7, u8, u9, u10] [] h Q := by
  refine w_iload dX12_beat_63 rfl ?_
  refine w_aload_n dX12_beat_65 rfl ?_
  obtain ⟨g1, k⟩ := k
  refine w_getI dX12_beat_66 f_12_7 t_12_0 g1 ?_
  refine w_ic_ge (pc' := 341) dX12_beat_69 rfl rfl ⟨fun c => ?_, fun c => ?_⟩
  · replace k := k.1 c
    refine w_aload_n dX12_beat_341 rfl ?_
    obtain ⟨g2, k⟩ := k
    exact w_virt (as1 := [.ref v0]) (as2 := [.ref v0]) (rest := []) (lo2 := [some (.ref v0), none]) dX12_beat_342 c_12_187 rfl rfl rfl (Nat.le_of_ble_eq_true rfl) (Nat.le_of_ble_eq_true rfl) rfl (Nat.le_of_ble_eq_true rfl) rfl rfl g2 g1 k
  · replace k := k.2 c
    refine w_iload dX12_beat_72 rfl ?_
    refine w_iload_n dX12_beat_74 rfl ?_
    refine w_ic_eq (pc' := 335) dX12_beat_75 rfl rfl ⟨fun c => ?_, fun c => ?_⟩
    · replace k := k.1 c
      refine w_iinc (lo' := [some (.ref v0), some (.int v1), some (.int v2), some (.int v3), some (.int v4), some (.int (v5 + (1 : Int32))), u6, u7, u8, u9, u10]) dX12_beat_335 rfl i1_1 rfl ?_
      refine w_goto (pc' := 63) dX12_beat_338 rfl rfl ?_
      exact k
    · replace k := k.2 c
      refine w_aload_n dX12_beat_78 rfl ?_
      refine w_getR dX12_beat_79 f_12_63 t_12_19 g1 ?_
      refine w_iconst dX12_beat_82 i1_5 ?_
      refine w_iload_n dX12_beat_83 rfl ?_
      refine w_imul dX12_beat_84 ?_
      refine w_iload dX12_beat_85 rfl ?_
      refine w_iadd dX12_beat_87 ?_
      obtain ⟨g3, k⟩ := k
      obtain ⟨g4, k⟩ := k
      refine w_iaload dX12_beat_88 g3 g4 ?_
      refine w_istore (lo' := [some (.ref v0), some (.int v1), some (.int v2), some (.int v3), some (.int v4), some (.int v5), some (.int (hAI h (hR h 1219 v0) ((((5 : Int32) * v3) + v5)).toNatClampNeg)), u7, u8, u9, u10]) dX12_beat_89 (ltQ rfl) rfl ?_
      refine w_aload_n dX12_beat_91 rfl ?_
      refine w_getR dX12_beat_92 f_12_42 t_12_12 g1 ?_
      refine w_iload_n dX12_beat_95 rfl ?_
      obtain ⟨g5, k⟩ := k
      obtain ⟨g6, k⟩ := k
      refine w_iaload dX12_beat_96 g5 g6 ?_
      refine w_iload dX12_beat_97 rfl ?_
      refine w_isub dX12_beat_99 ?_
      refine w_iconst dX12_beat_100 i1_3 ?_
      refine w_ic_le (pc' := 108) dX12_beat_101 rfl rfl ⟨fun c => ?_, fun c => ?_⟩
      · replace k := k.1 c
        refine w_aload_n dX12_beat_108 rfl ?_
        refine w_getR dX12_beat_109 f_12_42 t_12_12 g1 ?_
        refine w_iload_n dX12_beat_112 rfl ?_
        refine w_iaload dX12_beat_113 g5 g6 ?_
        refine w_iload dX12_beat_114 rfl ?_
        refine w_isub dX12_beat_116 ?_
        refine w_istore (lo' := [some (.ref v0), some (.int v1), some (.int v2), some (.int v3), some (.int v4), some (.int v5), some (.int (hAI h (hR h 1219 v0) ((((5 : Int32) * v3) + v5)).toNatClampNeg)), some (.int ((hAI h (hR h 1212 v0) (v3).toNatClampNeg) - (hAI h (hR h 1219 v0) ((((5 : Int32) * v3) + v5)).toNatClampNeg))), u8, u9, u10]) dX12_beat_117 (ltQ rfl) rfl ?_
        refine w_aload_n dX12_beat_119 rfl ?_
        refine w_iconst dX12_beat_120 i1_2 ?_
        refine w_iload_n dX12_beat_121 rfl ?_
        refine w_iload dX12_beat_122 rfl ?_
        refine w_aload_n dX12_beat_124 rfl ?_
        refine w_getR dX12_beat_125 f_12_32 t_12_9 g1 ?_
        refine w_iload_n dX12_beat_128 rfl ?_
        obtain ⟨g7, k⟩ := k
        obtain ⟨g8, k⟩ := k
        refine w_iaload dX12_beat_129 g7 g8 ?_
        obtain ⟨g9, k⟩ := k
        exact w_virt (as1 := [.int (hAI h (hR h 1209 v0) (v3).toNatClampNeg), .int v5, .int v3, .int (2 : Int32), .ref v0]) (as2 := [.ref v0, .int (2 : Int32), .int v3, .int v5, .int (hAI h (hR h 1209 v0) (v3).toNatClampNeg)]) (rest := []) (lo2 := [some (.ref v0), some (.int (2 : Int32)), some (.int v3), some (.int v5), some (.int (hAI h (hR h 1209 v0) (v3).toNatClampNeg)), none, none]) dX12_beat_130 c_12_229 rfl rfl rfl (Nat.le_of_ble_eq_true rfl) (Nat.le_of_ble_eq_true rfl) rfl (Nat.le_of_ble_eq_true rfl) rfl rfl g9 g1 k
      · replace k := k.2 c
        refine w_iconst dX12_beat_104 i1_3 ?_
        refine w_goto (pc' := 117) dX12_beat_105 rfl rfl ?_
        refine w_istore (lo' := [some (.ref v0), some (.int v1), some (.int v2), some (.int v3), some (.int v4), some (.int v5), some (.int (hAI h (hR h 1219 v0) ((((5 : Int32) * v3) + v5)).toNatClampNeg)), some (.int (3 : Int32)), u8, u9, u10]) dX12_beat_117 (ltQ rfl) rfl ?_
        refine w_aload_n dX12_beat_119 rfl ?_
        refine w_iconst dX12_beat_120 i1_2 ?_
        refine w_iload_n dX12_beat_121 rfl ?_
        refine w_iload dX12_beat_122 rfl ?_
        refine w_aload_n dX12_beat_124 rfl ?_
        refine w_getR dX12_beat_125 f_12_32 t_12_9 g1 ?_
        refine w_iload_n dX12_beat_128 rfl ?_
        obtain ⟨g10, k⟩ := k
        obtain ⟨g11, k⟩ := k
        refine w_iaload dX12_beat_129 g10 g11 ?_
        obtain ⟨g12, k⟩ := k
        exact w_virt (as1 := [.int (hAI h (hR h 1209 v0) (v3).toNatClampNeg), .int v5, .int v3, .int (2 : Int32), .ref v0]) (as2 := [.ref v0, .int (2 : Int32), .int v3, .int v5, .int (hAI h (hR h 1209 v0) (v3).toNatClampNeg)]) (rest := []) (lo2 := [some (.ref v0), some (.int (2 : Int32)), some (.int v3), some (.int v5), some (.int (hAI h (hR h 1209 v0) (v3).toNatClampNeg)), none, none]) dX12_beat_130 c_12_229 rfl rfl rfl (Nat.le_of_ble_eq_true rfl) (Nat.le_of_ble_eq_true rfl) rfl (Nat.le_of_ble_eq_true rfl) rfl rfl g12 g1 k
theorem bX12_beat_133 {d : Nat} {h : HP} {Q : Out → HP → Prop} {v0 : Nat} {v1 : Int32} {v2 : Int32} {v3 : Int32} {v4 : Int32} {v5 : Int32} {v6 : Int32} {v7 : Int32} {u8 : Option Value} {u9 : Option Value} {u10 : Option Value} {s0 : Int32} (k : ((s0 = (-1 : Int32)) → WP (d + 1) mX12_beat 63 [some (.ref v0), some (.int v1), some (.int v2), some (.int v3), some (.int (v4 + v7)), some (.int (v5 + (1 : Int32))), some (.int v6), some (.int v7), some (.int s0), u9, u10] [] h Q) ∧ ((¬ (s0 = (-1 : Int32))) → (hK h v0 = 12) ∧ ((hK h (hR h 1207 v0) = 22) ∧ ((inA h (hR h 1207 v0) v3 = true) ∧ ((hK h (hR h 1238 v0) = 22) ∧ ((inA h (hR h 1238 v0) (s0 / (24 : Int32)) = true) ∧ ((hK h (hR h 1237 v0) = 20) ∧ ((inA h (hR h 1237 v0) (s0 + (4 : Int32)) = true) ∧ ((1 < v0) ∧ (WP d mX12_termAt 0 [some (.ref v0), some (.int v3), some (.int v6)] [] (sAI (sAF h (hR h 1238 v0) ((s0 / (24 : Int32))).toNatClampNeg (hAF h (hR h 1207 v0) (v3).toNatClampNeg)) (hR h 1237 v0) ((s0 + (4 : Int32))).toNatClampNeg v6) (KK d mX12_beat mX12_termAt 187 [some (.ref v0), some (.int v1), some (.int v2), some (.int v3), some (.int (v4 + v7)), some (.int v5), some (.int v6), some (.int v7), some (.int s0), u9, u10] [.int (s0 + (5 : Int32)), .ref (hR h 1237 v0)] Q))))))))))) : WP (d + 1) mX12_beat 133 [some (.ref v0), some (.int v1), some (.int v2), some (.int v3), some (.int v4), some (.int v5), some (.int v6), some (.int v7), u8, u9, u10] [.int s0] h Q := by
  refine w_istore (lo' := [some (.ref v0), some (.int v1), some (.int v2), some (.int v3), some (.int v4), some (.int v5), some (.int v6), some (.int v7), some (.int s0), u9, u10]) dX12_beat_133 (ltQ rfl) rfl ?_
  refine w_iload dX12_beat_135 rfl ?_
  refine w_iload dX12_beat_137 rfl ?_
  refine w_iadd dX12_beat_139 ?_
  refine w_istore (lo' := [some (.ref v0), some (.int v1), some (.int v2), some (.int v3), some (.int (v4 + v7)), some (.int v5), some (.int v6), some (.int v7), some (.int s0), u9, u10]) dX12_beat_140 (ltQ rfl) rfl ?_
  refine w_iload dX12_beat_142 rfl ?_
  refine w_iconst dX12_beat_144 i1_m1 ?_
  refine w_ic_eq (pc' := 335) dX12_beat_145 rfl rfl ⟨fun c => ?_, fun c => ?_⟩
  · replace k := k.1 c
    refine w_iinc (lo' := [some (.ref v0), some (.int v1), some (.int v2), some (.int v3), some (.int (v4 + v7)), some (.int (v5 + (1 : Int32))), some (.int v6), some (.int v7), some (.int s0), u9, u10]) dX12_beat_335 rfl i1_1 rfl ?_
    refine w_goto (pc' := 63) dX12_beat_338 rfl rfl ?_
    exact k
  · replace k := k.2 c
    refine w_aload_n dX12_beat_148 rfl ?_
    obtain ⟨g1, k⟩ := k
    refine w_getR dX12_beat_149 f_12_120 t_12_38 g1 ?_
    refine w_iload dX12_beat_152 rfl ?_
    refine w_bipush dX12_beat_154 i2_24 ?_
    refine w_idiv dX12_beat_156 (by decide) ?_
    refine w_aload_n dX12_beat_157 rfl ?_
    refine w_getR dX12_beat_158 f_12_25 t_12_7 g1 ?_
    refine w_iload_n dX12_beat_161 rfl ?_
    obtain ⟨g2, k⟩ := k
    obtain ⟨g3, k⟩ := k
    refine w_faload dX12_beat_162 g2 g3 ?_
    obtain ⟨g4, k⟩ := k
    obtain ⟨g5, k⟩ := k
    refine w_fastore dX12_beat_163 g4 g5 ?_
    refine w_aload_n dX12_beat_164 rfl ?_
    refine w_getR dX12_beat_165 f_12_117 t_12_37 g1 ?_
    refine w_iload dX12_beat_168 rfl ?_
    refine w_iconst dX12_beat_170 i1_4 ?_
    refine w_iadd dX12_beat_171 ?_
    refine w_iload dX12_beat_172 rfl ?_
    obtain ⟨g6, k⟩ := k
    obtain ⟨g7, k⟩ := k
    refine w_iastore dX12_beat_174 g6 g7 ?_
    refine w_aload_n dX12_beat_175 rfl ?_
    refine w_getR dX12_beat_176 f_12_117 t_12_37 g1 ?_
    refine w_iload dX12_beat_179 rfl ?_
    refine w_iconst dX12_beat_181 i1_5 ?_
    refine w_iadd dX12_beat_182 ?_
    refine w_aload_n dX12_beat_183 rfl ?_
    refine w_iload_n dX12_beat_184 rfl ?_
    refine w_iload dX12_beat_185 rfl ?_
    obtain ⟨g8, k⟩ := k
    exact w_virt (as1 := [.int v6, .int v3, .ref v0]) (as2 := [.ref v0, .int v3, .int v6]) (rest := [.int (s0 + (5 : Int32)), .ref (hR h 1237 v0)]) (lo2 := [some (.ref v0), some (.int v3), some (.int v6)]) dX12_beat_187 c_12_233 rfl rfl rfl (Nat.le_of_ble_eq_true rfl) (Nat.le_of_ble_eq_true rfl) rfl (Nat.le_of_ble_eq_true rfl) rfl rfl g8 g1 k
theorem bX12_beat_190 {d : Nat} {h : HP} {Q : Out → HP → Prop} {v0 : Nat} {v1 : Int32} {v2 : Int32} {v3 : Int32} {v4 : Int32} {v5 : Int32} {v6 : Int32} {v7 : Int32} {v8 : Int32} {u9 : Option Value} {u10 : Option Value} {s0 : Int32} {s1 : Int32} {s2 : Nat} (k : (hK h s2 = 20) ∧ ((inA h s2 s1 = true) ∧ ((hK h v0 = 12) ∧ ((hK h (hR h 1213 v0) = 20) ∧ ((inA h (hR h 1213 v0) v3 = true) ∧ ((hK h (hR h 1237 v0) = 20) ∧ ((inA h (hR h 1237 v0) (v8 + (6 : Int32)) = true) ∧ ((inA h (hR h 1237 v0) (v8 + (8 : Int32)) = true) ∧ (WP d mX12_beat 222 [some (.ref v0), some (.int v1), some (.int v2), some (.int v3), some (.int v4), some (.int v5), some (.int v6), some (.int v7), some (.int v8), some (.int (0 : Int32)), u10] [] (sAI (sAI (sAI h s2 (s1).toNatClampNeg s0) (hR h 1237 v0) ((v8 + (6 : Int32))).toNatClampNeg (hAI (sAI h s2 (s1).toNatClampNeg s0) (hR h 1213 v0) (v3).toNatClampNeg)) (hR h 1237 v0) ((v8 + (8 : Int32))).toNatClampNeg v7) Q))))))))) : WP d mX12_beat 190 [some (.ref v0), some (.int v1), some (.int v2), some (.int v3), some (.int v4), some (.int v5), some (.int v6), some (.int v7), some (.int v8), u9, u10] [.int s0, .int s1, .ref s2] h Q := by
  obtain ⟨g1, k⟩ := k
  obtain ⟨g2, k⟩ := k
  refine w_iastore dX12_beat_190 g1 g2 ?_
  refine w_aload_n dX12_beat_191 rfl ?_
  obtain ⟨g3, k⟩ := k
  refine w_getR dX12_beat_192 f_12_117 t_12_37 g3 ?_
  refine w_iload dX12_beat_195 rfl ?_
  refine w_bipush dX12_beat_197 i2_6 ?_
  refine w_iadd dX12_beat_199 ?_
  refine w_aload_n dX12_beat_200 rfl ?_
  refine w_getR dX12_beat_201 f_12_45 t_12_13 g3 ?_
  refine w_iload_n dX12_beat_204 rfl ?_
  obtain ⟨g4, k⟩ := k
  obtain ⟨g5, k⟩ := k
  refine w_iaload dX12_beat_205 g4 g5 ?_
  obtain ⟨g6, k⟩ := k
  obtain ⟨g7, k⟩ := k
  refine w_iastore dX12_beat_206 g6 g7 ?_
  refine w_aload_n dX12_beat_207 rfl ?_
  refine w_getR dX12_beat_208 f_12_117 t_12_37 g3 ?_
  refine w_iload dX12_beat_211 rfl ?_
  refine w_bipush dX12_beat_213 i2_8 ?_
  refine w_iadd dX12_beat_215 ?_
  refine w_iload dX12_beat_216 rfl ?_
  obtain ⟨g8, k⟩ := k
  refine w_iastore dX12_beat_218 g6 g8 ?_
  refine w_iconst dX12_beat_219 i1_0 ?_
  refine w_istore (lo' := [some (.ref v0), some (.int v1), some (.int v2), some (.int v3), some (.int v4), some (.int v5), some (.int v6), some (.int v7), some (.int v8), some (.int (0 : Int32)), u10]) dX12_beat_220 (ltQ rfl) rfl ?_
  exact k
theorem bX12_beat_222 {d : Nat} {h : HP} {Q : Out → HP → Prop} {v0 : Nat} {v1 : Int32} {v2 : Int32} {v3 : Int32} {v4 : Int32} {v5 : Int32} {v6 : Int32} {v7 : Int32} {v8 : Int32} {v9 : Int32} {u10 : Option Value} (k : ((v7 ≤ v9) → WP d mX12_beat 63 [some (.ref v0), some (.int v1), some (.int v2), some (.int v3), some (.int v4), some (.int (v5 + (1 : Int32))), some (.int v6), some (.int v7), some (.int v8), some (.int v9), u10] [] h Q) ∧ ((¬ (v7 ≤ v9)) → (hK h v0 = 12) ∧ ((hK h (hR h 1214 v0) = 20) ∧ ((inA h (hR h 1214 v0) ((((30 : Int32) * v3) + v6) + v9) = true) ∧ ((hK h (hR h 1237 v0) = 20) ∧ ((inA h (hR h 1237 v0) ((v8 + (10 : Int32)) + ((4 : Int32) * v9)) = true) ∧ ((hK h (hR h 1215 v0) = 20) ∧ ((inA h (hR h 1215 v0) ((((30 : Int32) * v3) + v6) + v9) = true) ∧ ((inA h (hR h 1237 v0) ((v8 + (11 : Int32)) + ((4 : Int32) * v9)) = true) ∧ (WP d mX12_beat 285 [some (.ref v0), some (.int v1), some (.int v2), some (.int v3), some (.int v4), some (.int v5), some (.int v6), some (.int v7), some (.int v8), some (.int v9), some (.int ((((30 : Int32) * v3) + v6) + v9))] [] (sAI (sAI h (hR h 1237 v0) (((v8 + (10 : Int32)) + ((4 : Int32) * v9))).toNatClampNeg (hAI h (hR h 1214 v0) (((((30 : Int32) * v3) + v6) + v9)).toNatClampNeg)) (hR h 1237 v0) (((v8 + (11 : Int32)) + ((4 : Int32) * v9))).toNatClampNeg (hAI (sAI h (hR h 1237 v0) (((v8 + (10 : Int32)) + ((4 : Int32) * v9))).toNatClampNeg (hAI h (hR h 1214 v0) (((((30 : Int32) * v3) + v6) + v9)).toNatClampNeg)) (hR h 1215 v0) (((((30 : Int32) * v3) + v6) + v9)).toNatClampNeg)) Q)))))))))) : WP d mX12_beat 222 [some (.ref v0), some (.int v1), some (.int v2), some (.int v3), some (.int v4), some (.int v5), some (.int v6), some (.int v7), some (.int v8), some (.int v9), u10] [] h Q := by
  refine w_iload dX12_beat_222 rfl ?_
  refine w_iload dX12_beat_224 rfl ?_
  refine w_ic_ge (pc' := 335) dX12_beat_226 rfl rfl ⟨fun c => ?_, fun c => ?_⟩
  · replace k := k.1 c
    refine w_iinc (lo' := [some (.ref v0), some (.int v1), some (.int v2), some (.int v3), some (.int v4), some (.int (v5 + (1 : Int32))), some (.int v6), some (.int v7), some (.int v8), some (.int v9), u10]) dX12_beat_335 rfl i1_1 rfl ?_
    refine w_goto (pc' := 63) dX12_beat_338 rfl rfl ?_
    exact k
  · replace k := k.2 c
    refine w_bipush dX12_beat_229 i2_30 ?_
    refine w_iload_n dX12_beat_231 rfl ?_
    refine w_imul dX12_beat_232 ?_
    refine w_iload dX12_beat_233 rfl ?_
    refine w_iadd dX12_beat_235 ?_
    refine w_iload dX12_beat_236 rfl ?_
    refine w_iadd dX12_beat_238 ?_
    refine w_istore (lo' := [some (.ref v0), some (.int v1), some (.int v2), some (.int v3), some (.int v4), some (.int v5), some (.int v6), some (.int v7), some (.int v8), some (.int v9), some (.int ((((30 : Int32) * v3) + v6) + v9))]) dX12_beat_239 (ltQ rfl) rfl ?_
    refine w_aload_n dX12_beat_241 rfl ?_
    obtain ⟨g1, k⟩ := k
    refine w_getR dX12_beat_242 f_12_117 t_12_37 g1 ?_
    refine w_iload dX12_beat_245 rfl ?_
    refine w_bipush dX12_beat_247 i2_10 ?_
    refine w_iadd dX12_beat_249 ?_
    refine w_iconst dX12_beat_250 i1_4 ?_
    refine w_iload dX12_beat_251 rfl ?_
    refine w_imul dX12_beat_253 ?_
    refine w_iadd dX12_beat_254 ?_
    refine w_aload_n dX12_beat_255 rfl ?_
    refine w_getR dX12_beat_256 f_12_48 t_12_14 g1 ?_
    refine w_iload dX12_beat_259 rfl ?_
    obtain ⟨g2, k⟩ := k
    obtain ⟨g3, k⟩ := k
    refine w_iaload dX12_beat_261 g2 g3 ?_
    obtain ⟨g4, k⟩ := k
    obtain ⟨g5, k⟩ := k
    refine w_iastore dX12_beat_262 g4 g5 ?_
    refine w_aload_n dX12_beat_263 rfl ?_
    refine w_getR dX12_beat_264 f_12_117 t_12_37 g1 ?_
    refine w_iload dX12_beat_267 rfl ?_
    refine w_bipush dX12_beat_269 i2_11 ?_
    refine w_iadd dX12_beat_271 ?_
    refine w_iconst dX12_beat_272 i1_4 ?_
    refine w_iload dX12_beat_273 rfl ?_
    refine w_imul dX12_beat_275 ?_
    refine w_iadd dX12_beat_276 ?_
    refine w_aload_n dX12_beat_277 rfl ?_
    refine w_getR dX12_beat_278 f_12_51 t_12_15 g1 ?_
    refine w_iload dX12_beat_281 rfl ?_
    obtain ⟨g6, k⟩ := k
    obtain ⟨g7, k⟩ := k
    refine w_iaload dX12_beat_283 g6 g7 ?_
    obtain ⟨g8, k⟩ := k
    refine w_iastore dX12_beat_284 g4 g8 ?_
    exact k
theorem bX12_beat_285 {d : Nat} {h : HP} {Q : Out → HP → Prop} {v0 : Nat} {v1 : Int32} {v2 : Int32} {v3 : Int32} {v4 : Int32} {v5 : Int32} {v6 : Int32} {v7 : Int32} {v8 : Int32} {v9 : Int32} {v10 : Int32} (k : (hK h v0 = 12) ∧ ((hK h (hR h 1216 v0) = 20) ∧ ((inA h (hR h 1216 v0) v10 = true) ∧ ((hK h (hR h 1237 v0) = 20) ∧ ((inA h (hR h 1237 v0) ((v8 + (12 : Int32)) + ((4 : Int32) * v9)) = true) ∧ ((hK h (hR h 1217 v0) = 20) ∧ ((inA h (hR h 1217 v0) v10 = true) ∧ ((inA h (hR h 1237 v0) ((v8 + (13 : Int32)) + ((4 : Int32) * v9)) = true) ∧ (WP d mX12_beat 222 [some (.ref v0), some (.int v1), some (.int v2), some (.int v3), some (.int v4), some (.int v5), some (.int v6), some (.int v7), some (.int v8), some (.int (v9 + (1 : Int32))), some (.int v10)] [] (sAI (sAI h (hR h 1237 v0) (((v8 + (12 : Int32)) + ((4 : Int32) * v9))).toNatClampNeg (hAI h (hR h 1216 v0) (v10).toNatClampNeg)) (hR h 1237 v0) (((v8 + (13 : Int32)) + ((4 : Int32) * v9))).toNatClampNeg (hAI (sAI h (hR h 1237 v0) (((v8 + (12 : Int32)) + ((4 : Int32) * v9))).toNatClampNeg (hAI h (hR h 1216 v0) (v10).toNatClampNeg)) (hR h 1217 v0) (v10).toNatClampNeg)) Q))))))))) : WP d mX12_beat 285 [some (.ref v0), some (.int v1), some (.int v2), some (.int v3), some (.int v4), some (.int v5), some (.int v6), some (.int v7), some (.int v8), some (.int v9), some (.int v10)] [] h Q := by
  refine w_aload_n dX12_beat_285 rfl ?_
  obtain ⟨g1, k⟩ := k
  refine w_getR dX12_beat_286 f_12_117 t_12_37 g1 ?_
  refine w_iload dX12_beat_289 rfl ?_
  refine w_bipush dX12_beat_291 i2_12 ?_
  refine w_iadd dX12_beat_293 ?_
  refine w_iconst dX12_beat_294 i1_4 ?_
  refine w_iload dX12_beat_295 rfl ?_
  refine w_imul dX12_beat_297 ?_
  refine w_iadd dX12_beat_298 ?_
  refine w_aload_n dX12_beat_299 rfl ?_
  refine w_getR dX12_beat_300 f_12_54 t_12_16 g1 ?_
  refine w_iload dX12_beat_303 rfl ?_
  obtain ⟨g2, k⟩ := k
  obtain ⟨g3, k⟩ := k
  refine w_iaload dX12_beat_305 g2 g3 ?_
  obtain ⟨g4, k⟩ := k
  obtain ⟨g5, k⟩ := k
  refine w_iastore dX12_beat_306 g4 g5 ?_
  refine w_aload_n dX12_beat_307 rfl ?_
  refine w_getR dX12_beat_308 f_12_117 t_12_37 g1 ?_
  refine w_iload dX12_beat_311 rfl ?_
  refine w_bipush dX12_beat_313 i2_13 ?_
  refine w_iadd dX12_beat_315 ?_
  refine w_iconst dX12_beat_316 i1_4 ?_
  refine w_iload dX12_beat_317 rfl ?_
  refine w_imul dX12_beat_319 ?_
  refine w_iadd dX12_beat_320 ?_
  refine w_aload_n dX12_beat_321 rfl ?_
  refine w_getR dX12_beat_322 f_12_57 t_12_17 g1 ?_
  refine w_iload dX12_beat_325 rfl ?_
  obtain ⟨g6, k⟩ := k
  obtain ⟨g7, k⟩ := k
  refine w_iaload dX12_beat_327 g6 g7 ?_
  obtain ⟨g8, k⟩ := k
  refine w_iastore dX12_beat_328 g4 g8 ?_
  refine w_iinc (lo' := [some (.ref v0), some (.int v1), some (.int v2), some (.int v3), some (.int v4), some (.int v5), some (.int v6), some (.int v7), some (.int v8), some (.int (v9 + (1 : Int32))), some (.int v10)]) dX12_beat_329 rfl i1_1 rfl ?_
  refine w_goto (pc' := 222) dX12_beat_332 rfl rfl ?_
  exact k
theorem bX12_beat_345 {d : Nat} {h : HP} {Q : Out → HP → Prop} {v0 : Nat} {v1 : Int32} {v2 : Int32} {v3 : Int32} {v4 : Int32} {v5 : Int32} {u6 : Option Value} {u7 : Option Value} {u8 : Option Value} {u9 : Option Value} {u10 : Option Value} (k : Q (.inl (some (.int v4))) h) : WP d mX12_beat 345 [some (.ref v0), some (.int v1), some (.int v2), some (.int v3), some (.int v4), some (.int v5), u6, u7, u8, u9, u10] [] h Q := by
  refine w_iload dX12_beat_345 rfl ?_
  exact w_ireturn dX12_beat_347 rfl k
theorem bX12_acks_0 {d : Nat} {h : HP} {Q : Out → HP → Prop} {v0 : Nat} {v1 : Int32} {v2 : Int32} {v3 : Int32} {v4 : Int32} {v5 : UInt32} {u6 : Option Value} (k : (hK h v0 = 12) ∧ ((hK h (hR h 1209 v0) = 20) ∧ ((inA h (hR h 1209 v0) v1 = true) ∧ ((1 < v0) ∧ (WP d mX12_sends 0 [some (.ref v0), some (.int (3 : Int32)), some (.int v1), some (.int v2), some (.int (hAI h (hR h 1209 v0) (v1).toNatClampNeg)), none, none] [] h (KK d mX12_acks mX12_sends 10 [some (.ref v0), some (.int v1), some (.int v2), some (.int v3), some (.int v4), some (.float v5), u6] [] Q)))))) : WP (d + 1) mX12_acks 0 [some (.ref v0), some (.int v1), some (.int v2), some (.int v3), some (.int v4), some (.float v5), u6] [] h Q := by
  refine w_aload_n dX12_acks_0 rfl ?_
  refine w_iconst dX12_acks_1 i1_3 ?_
  refine w_iload_n dX12_acks_2 rfl ?_
  refine w_iload_n dX12_acks_3 rfl ?_
  refine w_aload_n dX12_acks_4 rfl ?_
  obtain ⟨g1, k⟩ := k
  refine w_getR dX12_acks_5 f_12_32 t_12_9 g1 ?_
  refine w_iload_n dX12_acks_8 rfl ?_
  obtain ⟨g2, k⟩ := k
  obtain ⟨g3, k⟩ := k
  refine w_iaload dX12_acks_9 g2 g3 ?_
  obtain ⟨g4, k⟩ := k
  exact w_virt (as1 := [.int (hAI h (hR h 1209 v0) (v1).toNatClampNeg), .int v2, .int v1, .int (3 : Int32), .ref v0]) (as2 := [.ref v0, .int (3 : Int32), .int v1, .int v2, .int (hAI h (hR h 1209 v0) (v1).toNatClampNeg)]) (rest := []) (lo2 := [some (.ref v0), some (.int (3 : Int32)), some (.int v1), some (.int v2), some (.int (hAI h (hR h 1209 v0) (v1).toNatClampNeg)), none, none]) dX12_acks_10 c_12_229 rfl rfl rfl (Nat.le_of_ble_eq_true rfl) (Nat.le_of_ble_eq_true rfl) rfl (Nat.le_of_ble_eq_true rfl) rfl rfl g4 g1 k
theorem bX12_acks_13 {d : Nat} {h : HP} {Q : Out → HP → Prop} {v0 : Nat} {v1 : Int32} {v2 : Int32} {v3 : Int32} {v4 : Int32} {v5 : UInt32} {u6 : Option Value} {s0 : Int32} (k : ((s0 = (-1 : Int32)) → Q (.inl none) h) ∧ ((¬ (s0 = (-1 : Int32))) → (hK h v0 = 12) ∧ ((hK h (hR h 1237 v0) = 20) ∧ ((inA h (hR h 1237 v0) (s0 + (4 : Int32)) = true) ∧ (((v3 = 0) → (inA h (hR h 1237 v0) (s0 + (7 : Int32)) = true) ∧ ((hK h (hR h 1238 v0) = 22) ∧ ((inA h (hR h 1238 v0) (s0 / (24 : Int32)) = true) ∧ (Q (.inl none) (sAF (sAI (sAI h (hR h 1237 v0) ((s0 + (4 : Int32))).toNatClampNeg v4) (hR h 1237 v0) ((s0 + (7 : Int32))).toNatClampNeg (0 : Int32)) (hR h 1238 v0) ((s0 / (24 : Int32))).toNatClampNeg v5))))) ∧ ((¬ (v3 = 0)) → (inA h (hR h 1237 v0) (s0 + (7 : Int32)) = true) ∧ ((hK h (hR h 1238 v0) = 22) ∧ ((inA h (hR h 1238 v0) (s0 / (24 : Int32)) = true) ∧ (Q (.inl none) (sAF (sAI (sAI h (hR h 1237 v0) ((s0 + (4 : Int32))).toNatClampNeg v4) (hR h 1237 v0) ((s0 + (7 : Int32))).toNatClampNeg (1 : Int32)) (hR h 1238 v0) ((s0 / (24 : Int32))).toNatClampNeg v5)))))))))) : WP d mX12_acks 13 [some (.ref v0), some (.int v1), some (.int v2), some (.int v3), some (.int v4), some (.float v5), u6] [.int s0] h Q := by
  refine w_istore (lo' := [some (.ref v0), some (.int v1), some (.int v2), some (.int v3), some (.int v4), some (.float v5), some (.int s0)]) dX12_acks_13 (ltQ rfl) rfl ?_
  refine w_iload dX12_acks_15 rfl ?_
  refine w_iconst dX12_acks_17 i1_m1 ?_
  refine w_ic_eq (pc' := 63) dX12_acks_18 rfl rfl ⟨fun c => ?_, fun c => ?_⟩
  · replace k := k.1 c
    exact w_return dX12_acks_63 rfl k
  · replace k := k.2 c
    refine w_aload_n dX12_acks_21 rfl ?_
    obtain ⟨g1, k⟩ := k
    refine w_getR dX12_acks_22 f_12_117 t_12_37 g1 ?_
    refine w_iload dX12_acks_25 rfl ?_
    refine w_iconst dX12_acks_27 i1_4 ?_
    refine w_iadd dX12_acks_28 ?_
    refine w_iload dX12_acks_29 rfl ?_
    obtain ⟨g2, k⟩ := k
    obtain ⟨g3, k⟩ := k
    refine w_iastore dX12_acks_31 g2 g3 ?_
    refine w_aload_n dX12_acks_32 rfl ?_
    refine w_getR dX12_acks_33 f_12_117 t_12_37 g1 ?_
    refine w_iload dX12_acks_36 rfl ?_
    refine w_bipush dX12_acks_38 i2_7 ?_
    refine w_iadd dX12_acks_40 ?_
    refine w_iload_n dX12_acks_41 rfl ?_
    refine w_if_eq (pc' := 49) dX12_acks_42 rfl rfl ⟨fun c => ?_, fun c => ?_⟩
    · replace k := k.1 c
      refine w_iconst dX12_acks_49 i1_0 ?_
      obtain ⟨g4, k⟩ := k
      refine w_iastore dX12_acks_50 g2 g4 ?_
      refine w_aload_n dX12_acks_51 rfl ?_
      refine w_getR dX12_acks_52 f_12_120 t_12_38 g1 ?_
      refine w_iload dX12_acks_55 rfl ?_
      refine w_bipush dX12_acks_57 i2_24 ?_
      refine w_idiv dX12_acks_59 (by decide) ?_
      refine w_fload dX12_acks_60 rfl ?_
      obtain ⟨g5, k⟩ := k
      obtain ⟨g6, k⟩ := k
      refine w_fastore dX12_acks_62 g5 g6 ?_
      exact w_return dX12_acks_63 rfl k
    · replace k := k.2 c
      refine w_iconst dX12_acks_45 i1_1 ?_
      refine w_goto (pc' := 50) dX12_acks_46 rfl rfl ?_
      obtain ⟨g7, k⟩ := k
      refine w_iastore dX12_acks_50 g2 g7 ?_
      refine w_aload_n dX12_acks_51 rfl ?_
      refine w_getR dX12_acks_52 f_12_120 t_12_38 g1 ?_
      refine w_iload dX12_acks_55 rfl ?_
      refine w_bipush dX12_acks_57 i2_24 ?_
      refine w_idiv dX12_acks_59 (by decide) ?_
      refine w_fload dX12_acks_60 rfl ?_
      obtain ⟨g8, k⟩ := k
      obtain ⟨g9, k⟩ := k
      refine w_fastore dX12_acks_62 g8 g9 ?_
      exact w_return dX12_acks_63 rfl k
theorem bX12_appended_0 {d : Nat} {h : HP} {Q : Out → HP → Prop} {v0 : Nat} {v1 : Int32} {v2 : UInt32} {u3 : Option Value} {u4 : Option Value} {u5 : Option Value} {u6 : Option Value} {u7 : Option Value} {u8 : Option Value} {u9 : Option Value} (k : (hK h v0 = 12) ∧ ((hK h (hR h 1249 v0) = 20) ∧ ((inA h (hR h 1249 v0) (1 : Int32) = true) ∧ ((inA h (hR h 1249 v0) (3 : Int32) = true) ∧ ((hK h (hR h 1209 v0) = 20) ∧ ((inA h (hR h 1209 v0) v1 = true) ∧ ((((hAI h (hR h 1209 v0) (v1).toNatClampNeg) ≤ (hAI h (hR h 1249 v0) ((3 : Int32)).toNatClampNeg)) → (1 < v0) ∧ (WP d mX12_follows 0 [some (.ref v0), some (.int v1)] [] h (KK d mX12_appended mX12_follows 34 [some (.ref v0), some (.int v1), some (.float v2), some (.int (hAI h (hR h 1249 v0) ((1 : Int32)).toNatClampNeg)), u4, u5, u6, u7, u8, u9] [] Q))) ∧ ((¬ ((hAI h (hR h 1209 v0) (v1).toNatClampNeg) ≤ (hAI h (hR h 1249 v0) ((3 : Int32)).toNatClampNeg))) → (1 < v0) ∧ (WP d mX12_acks 0 [some (.ref v0), some (.int v1), some (.int (hAI h (hR h 1249 v0) ((1 : Int32)).toNatClampNeg)), some (.int (0 : Int32)), some (.int (0 : Int32)), some (.float v2), none] [] h (KK d mX12_appended mX12_acks 28 [some (.ref v0), some (.int v1), some (.float v2), some (.int (hAI h (hR h 1249 v0) ((1 : Int32)).toNatClampNeg)), u4, u5, u6, u7, u8, u9] [] Q)))))))))) : WP (d + 1) mX12_appended 0 [some (.ref v0), some (.int v1), some (.float v2), u3, u4, u5, u6, u7, u8, u9] [] h Q := by
  refine w_aload_n dX12_appended_0 rfl ?_
  obtain ⟨g1, k⟩ := k
  refine w_getR dX12_appended_1 f_12_144 t_12_49 g1 ?_
  refine w_iconst dX12_appended_4 i1_1 ?_
  obtain ⟨g2, k⟩ := k
  obtain ⟨g3, k⟩ := k
  refine w_iaload dX12_appended_5 g2 g3 ?_
  refine w_istore_n (lo' := [some (.ref v0), some (.int v1), some (.float v2), some (.int (hAI h (hR h 1249 v0) ((1 : Int32)).toNatClampNeg)), u4, u5, u6, u7, u8, u9]) dX12_appended_6 (ltQ rfl) rfl ?_
  refine w_aload_n dX12_appended_7 rfl ?_
  refine w_getR dX12_appended_8 f_12_144 t_12_49 g1 ?_
  refine w_iconst dX12_appended_11 i1_3 ?_
  obtain ⟨g4, k⟩ := k
  refine w_iaload dX12_appended_12 g2 g4 ?_
  refine w_aload_n dX12_appended_13 rfl ?_
  refine w_getR dX12_appended_14 f_12_32 t_12_9 g1 ?_
  refine w_iload_n dX12_appended_17 rfl ?_
  obtain ⟨g5, k⟩ := k
  obtain ⟨g6, k⟩ := k
  refine w_iaload dX12_appended_18 g5 g6 ?_
  refine w_ic_ge (pc' := 32) dX12_appended_19 rfl rfl ⟨fun c => ?_, fun c => ?_⟩
  · replace k := k.1 c
    refine w_aload_n dX12_appended_32 rfl ?_
    refine w_iload_n dX12_appended_33 rfl ?_
    obtain ⟨g7, k⟩ := k
    exact w_virt (as1 := [.int v1, .ref v0]) (as2 := [.ref v0, .int v1]) (rest := []) (lo2 := [some (.ref v0), some (.int v1)]) dX12_appended_34 c_12_184 rfl rfl rfl (Nat.le_of_ble_eq_true rfl) (Nat.le_of_ble_eq_true rfl) rfl (Nat.le_of_ble_eq_true rfl) rfl rfl g7 g1 k
  · replace k := k.2 c
    refine w_aload_n dX12_appended_22 rfl ?_
    refine w_iload_n dX12_appended_23 rfl ?_
    refine w_iload_n dX12_appended_24 rfl ?_
    refine w_iconst dX12_appended_25 i1_0 ?_
    refine w_iconst dX12_appended_26 i1_0 ?_
    refine w_fload_n dX12_appended_27 rfl ?_
    obtain ⟨g8, k⟩ := k
    exact w_virt (as1 := [.float v2, .int (0 : Int32), .int (0 : Int32), .int (hAI h (hR h 1249 v0) ((1 : Int32)).toNatClampNeg), .int v1, .ref v0]) (as2 := [.ref v0, .int v1, .int (hAI h (hR h 1249 v0) ((1 : Int32)).toNatClampNeg), .int (0 : Int32), .int (0 : Int32), .float v2]) (rest := []) (lo2 := [some (.ref v0), some (.int v1), some (.int (hAI h (hR h 1249 v0) ((1 : Int32)).toNatClampNeg)), some (.int (0 : Int32)), some (.int (0 : Int32)), some (.float v2), none]) dX12_appended_28 c_12_245 rfl rfl rfl (Nat.le_of_ble_eq_true rfl) (Nat.le_of_ble_eq_true rfl) rfl (Nat.le_of_ble_eq_true rfl) rfl rfl g8 g1 k
theorem bX12_appended_31 {d : Nat} {h : HP} {Q : Out → HP → Prop} {v0 : Nat} {v1 : Int32} {v2 : UInt32} {v3 : Int32} {u4 : Option Value} {u5 : Option Value} {u6 : Option Value} {u7 : Option Value} {u8 : Option Value} {u9 : Option Value} (k : Q (.inl none) h) : WP d mX12_appended 31 [some (.ref v0), some (.int v1), some (.float v2), some (.int v3), u4, u5, u6, u7, u8, u9] [] h Q := by
  exact w_return dX12_appended_31 rfl k
theorem bX12_appended_37 {d : Nat} {h : HP} {Q : Out → HP → Prop} {v0 : Nat} {v1 : Int32} {v2 : UInt32} {v3 : Int32} {u4 : Option Value} {u5 : Option Value} {u6 : Option Value} {u7 : Option Value} {u8 : Option Value} {u9 : Option Value} (k : (hK h v0 = 12) ∧ ((hK h (hR h 1249 v0) = 20) ∧ ((inA h (hR h 1249 v0) (4 : Int32) = true) ∧ ((hK h (hR h 1212 v0) = 20) ∧ ((inA h (hR h 1212 v0) v1 = true) ∧ ((((hAI h (hR h 1212 v0) (v1).toNatClampNeg) < (hAI h (hR h 1249 v0) ((4 : Int32)).toNatClampNeg)) → (((hAI h (hR h 1212 v0) (v1).toNatClampNeg) ≤ ((hAI h (hR h 1249 v0) ((4 : Int32)).toNatClampNeg) - (1 : Int32))) → (1 < v0) ∧ (WP d mX12_acks 0 [some (.ref v0), some (.int v1), some (.int v3), some (.int (0 : Int32)), some (.int (hAI h (hR h 1212 v0) (v1).toNatClampNeg)), some (.float v2), none] [] h (KK d mX12_appended mX12_acks 103 [some (.ref v0), some (.int v1), some (.float v2), some (.int v3), some (.int (hAI h (hR h 1249 v0) ((4 : Int32)).toNatClampNeg)), u5, u6, u7, u8, u9] [] Q))) ∧ ((¬ ((hAI h (hR h 1212 v0) (v1).toNatClampNeg) ≤ ((hAI h (hR h 1249 v0) ((4 : Int32)).toNatClampNeg) - (1 : Int32)))) → (1 < v0) ∧ (WP d mX12_acks 0 [some (.ref v0), some (.int v1), some (.int v3), some (.int (0 : Int32)), some (.int ((hAI h (hR h 1249 v0) ((4 : Int32)).toNatClampNeg) - (1 : Int32))), some (.float v2), none] [] h (KK d mX12_appended mX12_acks 103 [some (.ref v0), some (.int v1), some (.float v2), some (.int v3), some (.int (hAI h (hR h 1249 v0) ((4 : Int32)).toNatClampNeg)), u5, u6, u7, u8, u9] [] Q)))) ∧ ((¬ ((hAI h (hR h 1212 v0) (v1).toNatClampNeg) < (hAI h (hR h 1249 v0) ((4 : Int32)).toNatClampNeg))) → (1 < v0) ∧ (WP d mX12_termAt 0 [some (.ref v0), some (.int v1), some (.int (hAI h (hR h 1249 v0) ((4 : Int32)).toNatClampNeg))] [] h (KK d mX12_appended mX12_termAt 60 [some (.ref v0), some (.int v1), some (.float v2), some (.int v3), some (.int (hAI h (hR h 1249 v0) ((4 : Int32)).toNatClampNeg)), u5, u6, u7, u8, u9] [] Q))))))))) : WP (d + 1) mX12_appended 37 [some (.ref v0), some (.int v1), some (.float v2), some (.int v3), u4, u5, u6, u7, u8, u9] [] h Q := by
  refine w_aload_n dX12_appended_37 rfl ?_
  obtain ⟨g1, k⟩ := k
  refine w_getR dX12_appended_38 f_12_144 t_12_49 g1 ?_
  refine w_iconst dX12_appended_41 i1_4 ?_
  obtain ⟨g2, k⟩ := k
  obtain ⟨g3, k⟩ := k
  refine w_iaload dX12_appended_42 g2 g3 ?_
  refine w_istore (lo' := [some (.ref v0), some (.int v1), some (.float v2), some (.int v3), some (.int (hAI h (hR h 1249 v0) ((4 : Int32)).toNatClampNeg)), u5, u6, u7, u8, u9]) dX12_appended_43 (ltQ rfl) rfl ?_
  refine w_iload dX12_appended_45 rfl ?_
  refine w_aload_n dX12_appended_47 rfl ?_
  refine w_getR dX12_appended_48 f_12_42 t_12_12 g1 ?_
  refine w_iload_n dX12_appended_51 rfl ?_
  obtain ⟨g4, k⟩ := k
  obtain ⟨g5, k⟩ := k
  refine w_iaload dX12_appended_52 g4 g5 ?_
  refine w_ic_gt (pc' := 72) dX12_appended_53 rfl rfl ⟨fun c => ?_, fun c => ?_⟩
  · replace k := k.1 c
    refine w_aload_n dX12_appended_72 rfl ?_
    refine w_iload_n dX12_appended_73 rfl ?_
    refine w_iload_n dX12_appended_74 rfl ?_
    refine w_iconst dX12_appended_75 i1_0 ?_
    refine w_iload dX12_appended_76 rfl ?_
    refine w_iconst dX12_appended_78 i1_1 ?_
    refine w_isub dX12_appended_79 ?_
    refine w_aload_n dX12_appended_80 rfl ?_
    refine w_getR dX12_appended_81 f_12_42 t_12_12 g1 ?_
    refine w_iload_n dX12_appended_84 rfl ?_
    refine w_iaload dX12_appended_85 g4 g5 ?_
    refine w_ic_ge (pc' := 96) dX12_appended_86 rfl rfl ⟨fun c => ?_, fun c => ?_⟩
    · replace k := k.1 c
      refine w_aload_n dX12_appended_96 rfl ?_
      refine w_getR dX12_appended_97 f_12_42 t_12_12 g1 ?_
      refine w_iload_n dX12_appended_100 rfl ?_
      refine w_iaload dX12_appended_101 g4 g5 ?_
      refine w_fload_n dX12_appended_102 rfl ?_
      obtain ⟨g6, k⟩ := k
      exact w_virt (as1 := [.float v2, .int (hAI h (hR h 1212 v0) (v1).toNatClampNeg), .int (0 : Int32), .int v3, .int v1, .ref v0]) (as2 := [.ref v0, .int v1, .int v3, .int (0 : Int32), .int (hAI h (hR h 1212 v0) (v1).toNatClampNeg), .float v2]) (rest := []) (lo2 := [some (.ref v0), some (.int v1), some (.int v3), some (.int (0 : Int32)), some (.int (hAI h (hR h 1212 v0) (v1).toNatClampNeg)), some (.float v2), none]) dX12_appended_103 c_12_245 rfl rfl rfl (Nat.le_of_ble_eq_true rfl) (Nat.le_of_ble_eq_true rfl) rfl (Nat.le_of_ble_eq_true rfl) rfl rfl g6 g1 k
    · replace k := k.2 c
      refine w_iload dX12_appended_89 rfl ?_
      refine w_iconst dX12_appended_91 i1_1 ?_
      refine w_isub dX12_appended_92 ?_
      refine w_goto (pc' := 102) dX12_appended_93 rfl rfl ?_
      refine w_fload_n dX12_appended_102 rfl ?_
      obtain ⟨g7, k⟩ := k
      exact w_virt (as1 := [.float v2, .int ((hAI h (hR h 1249 v0) ((4 : Int32)).toNatClampNeg) - (1 : Int32)), .int (0 : Int32), .int v3, .int v1, .ref v0]) (as2 := [.ref v0, .int v1, .int v3, .int (0 : Int32), .int ((hAI h (hR h 1249 v0) ((4 : Int32)).toNatClampNeg) - (1 : Int32)), .float v2]) (rest := []) (lo2 := [some (.ref v0), some (.int v1), some (.int v3), some (.int (0 : Int32)), some (.int ((hAI h (hR h 1249 v0) ((4 : Int32)).toNatClampNeg) - (1 : Int32))), some (.float v2), none]) dX12_appended_103 c_12_245 rfl rfl rfl (Nat.le_of_ble_eq_true rfl) (Nat.le_of_ble_eq_true rfl) rfl (Nat.le_of_ble_eq_true rfl) rfl rfl g7 g1 k
  · replace k := k.2 c
    refine w_aload_n dX12_appended_56 rfl ?_
    refine w_iload_n dX12_appended_57 rfl ?_
    refine w_iload dX12_appended_58 rfl ?_
    obtain ⟨g8, k⟩ := k
    exact w_virt (as1 := [.int (hAI h (hR h 1249 v0) ((4 : Int32)).toNatClampNeg), .int v1, .ref v0]) (as2 := [.ref v0, .int v1, .int (hAI h (hR h 1249 v0) ((4 : Int32)).toNatClampNeg)]) (rest := []) (lo2 := [some (.ref v0), some (.int v1), some (.int (hAI h (hR h 1249 v0) ((4 : Int32)).toNatClampNeg))]) dX12_appended_60 c_12_233 rfl rfl rfl (Nat.le_of_ble_eq_true rfl) (Nat.le_of_ble_eq_true rfl) rfl (Nat.le_of_ble_eq_true rfl) rfl rfl g8 g1 k
theorem bX12_appended_63 {d : Nat} {h : HP} {Q : Out → HP → Prop} {v0 : Nat} {v1 : Int32} {v2 : UInt32} {v3 : Int32} {v4 : Int32} {u5 : Option Value} {u6 : Option Value} {u7 : Option Value} {u8 : Option Value} {u9 : Option Value} {s0 : Int32} (k : (hK h v0 = 12) ∧ ((hK h (hR h 1249 v0) = 20) ∧ ((inA h (hR h 1249 v0) (5 : Int32) = true) ∧ (((s0 = (hAI h (hR h 1249 v0) ((5 : Int32)).toNatClampNeg)) → (inA h (hR h 1249 v0) (8 : Int32) = true) ∧ (WP (d + 1) mX12_appended 122 [some (.ref v0), some (.int v1), some (.float v2), some (.int v3), some (.int v4), some (.int (hAI h (hR h 1249 v0) ((8 : Int32)).toNatClampNeg)), some (.int (0 : Int32)), some (.int (0 : Int32)), u8, u9] [] h Q)) ∧ ((¬ (s0 = (hAI h (hR h 1249 v0) ((5 : Int32)).toNatClampNeg))) → (hK h (hR h 1212 v0) = 20) ∧ ((inA h (hR h 1212 v0) v1 = true) ∧ ((((hAI h (hR h 1212 v0) (v1).toNatClampNeg) ≤ (v4 - (1 : Int32))) → (1 < v0) ∧ (WP d mX12_acks 0 [some (.ref v0), some (.int v1), some (.int v3), some (.int (0 : Int32)), some (.int (hAI h (hR h 1212 v0) (v1).toNatClampNeg)), some (.float v2), none] [] h (KK d mX12_appended mX12_acks 103 [some (.ref v0), some (.int v1), some (.float v2), some (.int v3), some (.int v4), u5, u6, u7, u8, u9] [] Q))) ∧ ((¬ ((hAI h (hR h 1212 v0) (v1).toNatClampNeg) ≤ (v4 - (1 : Int32)))) → (1 < v0) ∧ (WP d mX12_acks 0 [some (.ref v0), some (.int v1), some (.int v3), some (.int (0 : Int32)), some (.int (v4 - (1 : Int32))), some (.float v2), none] [] h (KK d mX12_appended mX12_acks 103 [some (.ref v0), some (.int v1), some (.float v2), some (.int v3), some (.int v4), u5, u6, u7, u8, u9] [] Q)))))))))) : WP (d + 1) mX12_appended 63 [some (.ref v0), some (.int v1), some (.float v2), some (.int v3), some (.int v4), u5, u6, u7, u8, u9] [.int s0] h Q := by
  refine w_aload_n dX12_appended_63 rfl ?_
  obtain ⟨g1, k⟩ := k
  refine w_getR dX12_appended_64 f_12_144 t_12_49 g1 ?_
  refine w_iconst dX12_appended_67 i1_5 ?_
  obtain ⟨g2, k⟩ := k
  obtain ⟨g3, k⟩ := k
  refine w_iaload dX12_appended_68 g2 g3 ?_
  refine w_ic_eq (pc' := 107) dX12_appended_69 rfl rfl ⟨fun c => ?_, fun c => ?_⟩
  · replace k := k.1 c
    refine w_aload_n dX12_appended_107 rfl ?_
    refine w_getR dX12_appended_108 f_12_144 t_12_49 g1 ?_
    refine w_bipush dX12_appended_111 i2_8 ?_
    obtain ⟨g4, k⟩ := k
    refine w_iaload dX12_appended_113 g2 g4 ?_
    refine w_istore (lo' := [some (.ref v0), some (.int v1), some (.float v2), some (.int v3), some (.int v4), some (.int (hAI h (hR h 1249 v0) ((8 : Int32)).toNatClampNeg)), u6, u7, u8, u9]) dX12_appended_114 (ltQ rfl) rfl ?_
    refine w_iconst dX12_appended_116 i1_0 ?_
    refine w_istore (lo' := [some (.ref v0), some (.int v1), some (.float v2), some (.int v3), some (.int v4), some (.int (hAI h (hR h 1249 v0) ((8 : Int32)).toNatClampNeg)), some (.int (0 : Int32)), u7, u8, u9]) dX12_appended_117 (ltQ rfl) rfl ?_
    refine w_iconst dX12_appended_119 i1_0 ?_
    refine w_istore (lo' := [some (.ref v0), some (.int v1), some (.float v2), some (.int v3), some (.int v4), some (.int (hAI h (hR h 1249 v0) ((8 : Int32)).toNatClampNeg)), some (.int (0 : Int32)), some (.int (0 : Int32)), u8, u9]) dX12_appended_120 (ltQ rfl) rfl ?_
    exact k
  · replace k := k.2 c
    refine w_aload_n dX12_appended_72 rfl ?_
    refine w_iload_n dX12_appended_73 rfl ?_
    refine w_iload_n dX12_appended_74 rfl ?_
    refine w_iconst dX12_appended_75 i1_0 ?_
    refine w_iload dX12_appended_76 rfl ?_
    refine w_iconst dX12_appended_78 i1_1 ?_
    refine w_isub dX12_appended_79 ?_
    refine w_aload_n dX12_appended_80 rfl ?_
    refine w_getR dX12_appended_81 f_12_42 t_12_12 g1 ?_
    refine w_iload_n dX12_appended_84 rfl ?_
    obtain ⟨g5, k⟩ := k
    obtain ⟨g6, k⟩ := k
    refine w_iaload dX12_appended_85 g5 g6 ?_
    refine w_ic_ge (pc' := 96) dX12_appended_86 rfl rfl ⟨fun c => ?_, fun c => ?_⟩
    · replace k := k.1 c
      refine w_aload_n dX12_appended_96 rfl ?_
      refine w_getR dX12_appended_97 f_12_42 t_12_12 g1 ?_
      refine w_iload_n dX12_appended_100 rfl ?_
      refine w_iaload dX12_appended_101 g5 g6 ?_
      refine w_fload_n dX12_appended_102 rfl ?_
      obtain ⟨g7, k⟩ := k
      exact w_virt (as1 := [.float v2, .int (hAI h (hR h 1212 v0) (v1).toNatClampNeg), .int (0 : Int32), .int v3, .int v1, .ref v0]) (as2 := [.ref v0, .int v1, .int v3, .int (0 : Int32), .int (hAI h (hR h 1212 v0) (v1).toNatClampNeg), .float v2]) (rest := []) (lo2 := [some (.ref v0), some (.int v1), some (.int v3), some (.int (0 : Int32)), some (.int (hAI h (hR h 1212 v0) (v1).toNatClampNeg)), some (.float v2), none]) dX12_appended_103 c_12_245 rfl rfl rfl (Nat.le_of_ble_eq_true rfl) (Nat.le_of_ble_eq_true rfl) rfl (Nat.le_of_ble_eq_true rfl) rfl rfl g7 g1 k
    · replace k := k.2 c
      refine w_iload dX12_appended_89 rfl ?_
      refine w_iconst dX12_appended_91 i1_1 ?_
      refine w_isub dX12_appended_92 ?_
      refine w_goto (pc' := 102) dX12_appended_93 rfl rfl ?_
      refine w_fload_n dX12_appended_102 rfl ?_
      obtain ⟨g8, k⟩ := k
      exact w_virt (as1 := [.float v2, .int (v4 - (1 : Int32)), .int (0 : Int32), .int v3, .int v1, .ref v0]) (as2 := [.ref v0, .int v1, .int v3, .int (0 : Int32), .int (v4 - (1 : Int32)), .float v2]) (rest := []) (lo2 := [some (.ref v0), some (.int v1), some (.int v3), some (.int (0 : Int32)), some (.int (v4 - (1 : Int32))), some (.float v2), none]) dX12_appended_103 c_12_245 rfl rfl rfl (Nat.le_of_ble_eq_true rfl) (Nat.le_of_ble_eq_true rfl) rfl (Nat.le_of_ble_eq_true rfl) rfl rfl g8 g1 k
theorem bX12_appended_106 {d : Nat} {h : HP} {Q : Out → HP → Prop} {v0 : Nat} {v1 : Int32} {v2 : UInt32} {v3 : Int32} {v4 : Int32} {u5 : Option Value} {u6 : Option Value} {u7 : Option Value} {u8 : Option Value} {u9 : Option Value} (k : Q (.inl none) h) : WP d mX12_appended 106 [some (.ref v0), some (.int v1), some (.float v2), some (.int v3), some (.int v4), u5, u6, u7, u8, u9] [] h Q := by
  exact w_return dX12_appended_106 rfl k
theorem bX12_appended_122 {d : Nat} {h : HP} {Q : Out → HP → Prop} {v0 : Nat} {v1 : Int32} {v2 : UInt32} {v3 : Int32} {v4 : Int32} {v5 : Int32} {v6 : Int32} {v7 : Int32} {u8 : Option Value} {u9 : Option Value} (k : ((v5 ≤ v7) → (hK h v0 = 12) ∧ ((hK h (hR h 1249 v0) = 20) ∧ ((inA h (hR h 1249 v0) (6 : Int32) = true) ∧ ((((v4 + v5) ≤ (hAI h (hR h 1249 v0) ((6 : Int32)).toNatClampNeg)) → (hK h (hR h 1213 v0) = 20) ∧ ((inA h (hR h 1213 v0) v1 = true) ∧ ((((v4 + v5) ≤ (hAI h (hR h 1213 v0) (v1).toNatClampNeg)) → (hK h (hR h 1225 v0) = 20) ∧ ((inA h (hR h 1225 v0) v1 = true) ∧ ((hK h (hR h 1207 v0) = 22) ∧ ((inA h (hR h 1207 v0) v1 = true) ∧ ((nn32 (FP.fadd (hAF h (hR h 1207 v0) (v1).toNatClampNeg) (hF h 1202 v0)) = true) ∧ ((hK h (hR h 1226 v0) = 22) ∧ ((inA h (hR h 1226 v0) v1 = true) ∧ ((1 < v0) ∧ (WP d mX12_acks 0 [some (.ref v0), some (.int v1), some (.int v3), some (.int (1 : Int32)), some (.int (v4 + v5)), some (.float v2), none] [] (sAF (sAI (sAI h (hR h 1213 v0) (v1).toNatClampNeg (hAI h (hR h 1213 v0) (v1).toNatClampNeg)) (hR h 1225 v0) (v1).toNatClampNeg v3) (hR h 1226 v0) (v1).toNatClampNeg (FP.fadd (hAF h (hR h 1207 v0) (v1).toNatClampNeg) (hF h 1202 v0))) (KK d mX12_appended mX12_acks 383 [some (.ref v0), some (.int v1), some (.float v2), some (.int v3), some (.int v4), some (.int v5), some (.int v6), some (.int (v4 + v5)), u8, u9] [] Q)))))))))) ∧ ((¬ ((v4 + v5) ≤ (hAI h (hR h 1213 v0) (v1).toNatClampNeg))) → (hK h (hR h 1225 v0) = 20) ∧ ((inA h (hR h 1225 v0) v1 = true) ∧ ((hK h (hR h 1207 v0) = 22) ∧ ((inA h (hR h 1207 v0) v1 = true) ∧ ((nn32 (FP.fadd (hAF h (hR h 1207 v0) (v1).toNatClampNeg) (hF h 1202 v0)) = true) ∧ ((hK h (hR h 1226 v0) = 22) ∧ ((inA h (hR h 1226 v0) v1 = true) ∧ ((1 < v0) ∧ (WP d mX12_acks 0 [some (.ref v0), some (.int v1), some (.int v3), some (.int (1 : Int32)), some (.int (v4 + v5)), some (.float v2), none] [] (sAF (sAI (sAI h (hR h 1213 v0) (v1).toNatClampNeg (v4 + v5)) (hR h 1225 v0) (v1).toNatClampNeg v3) (hR h 1226 v0) (v1).toNatClampNeg (FP.fadd (hAF h (hR h 1207 v0) (v1).toNatClampNeg) (hF h 1202 v0))) (KK d mX12_appended mX12_acks 383 [some (.ref v0), some (.int v1), some (.float v2), some (.int v3), some (.int v4), some (.int v5), some (.int v6), some (.int (v4 + v5)), u8, u9] [] Q))))))))))))) ∧ ((¬ ((v4 + v5) ≤ (hAI h (hR h 1249 v0) ((6 : Int32)).toNatClampNeg))) → (hK h (hR h 1213 v0) = 20) ∧ ((inA h (hR h 1213 v0) v1 = true) ∧ ((((hAI h (hR h 1249 v0) ((6 : Int32)).toNatClampNeg) ≤ (hAI h (hR h 1213 v0) (v1).toNatClampNeg)) → (hK h (hR h 1225 v0) = 20) ∧ ((inA h (hR h 1225 v0) v1 = true) ∧ ((hK h (hR h 1207 v0) = 22) ∧ ((inA h (hR h 1207 v0) v1 = true) ∧ ((nn32 (FP.fadd (hAF h (hR h 1207 v0) (v1).toNatClampNeg) (hF h 1202 v0)) = true) ∧ ((hK h (hR h 1226 v0) = 22) ∧ ((inA h (hR h 1226 v0) v1 = true) ∧ ((1 < v0) ∧ (WP d mX12_acks 0 [some (.ref v0), some (.int v1), some (.int v3), some (.int (1 : Int32)), some (.int (v4 + v5)), some (.float v2), none] [] (sAF (sAI (sAI h (hR h 1213 v0) (v1).toNatClampNeg (hAI h (hR h 1213 v0) (v1).toNatClampNeg)) (hR h 1225 v0) (v1).toNatClampNeg v3) (hR h 1226 v0) (v1).toNatClampNeg (FP.fadd (hAF h (hR h 1207 v0) (v1).toNatClampNeg) (hF h 1202 v0))) (KK d mX12_appended mX12_acks 383 [some (.ref v0), some (.int v1), some (.float v2), some (.int v3), some (.int v4), some (.int v5), some (.int v6), some (.int (hAI h (hR h 1249 v0) ((6 : Int32)).toNatClampNeg)), u8, u9] [] Q)))))))))) ∧ ((¬ ((hAI h (hR h 1249 v0) ((6 : Int32)).toNatClampNeg) ≤ (hAI h (hR h 1213 v0) (v1).toNatClampNeg))) → (hK h (hR h 1225 v0) = 20) ∧ ((inA h (hR h 1225 v0) v1 = true) ∧ ((hK h (hR h 1207 v0) = 22) ∧ ((inA h (hR h 1207 v0) v1 = true) ∧ ((nn32 (FP.fadd (hAF h (hR h 1207 v0) (v1).toNatClampNeg) (hF h 1202 v0)) = true) ∧ ((hK h (hR h 1226 v0) = 22) ∧ ((inA h (hR h 1226 v0) v1 = true) ∧ ((1 < v0) ∧ (WP d mX12_acks 0 [some (.ref v0), some (.int v1), some (.int v3), some (.int (1 : Int32)), some (.int (v4 + v5)), some (.float v2), none] [] (sAF (sAI (sAI h (hR h 1213 v0) (v1).toNatClampNeg (hAI h (hR h 1249 v0) ((6 : Int32)).toNatClampNeg)) (hR h 1225 v0) (v1).toNatClampNeg v3) (hR h 1226 v0) (v1).toNatClampNeg (FP.fadd (hAF h (hR h 1207 v0) (v1).toNatClampNeg) (hF h 1202 v0))) (KK d mX12_appended mX12_acks 383 [some (.ref v0), some (.int v1), some (.float v2), some (.int v3), some (.int v4), some (.int v5), some (.int v6), some (.int (hAI h (hR h 1249 v0) ((6 : Int32)).toNatClampNeg)), u8, u9] [] Q))))))))))))))))) ∧ ((¬ (v5 ≤ v7)) → ((¬ v6 = 0) → (((1 : Int32) = 0) → WP (d + 1) mX12_appended 122 [some (.ref v0), some (.int v1), some (.float v2), some (.int v3), some (.int v4), some (.int v5), some (.int (1 : Int32)), some (.int (v7 + (1 : Int32))), some (.int ((v4 + v7) + (1 : Int32))), u9] [] h Q) ∧ ((¬ ((1 : Int32) = 0)) → (hK h v0 = 12) ∧ ((hK h (hR h 1249 v0) = 20) ∧ ((inA h (hR h 1249 v0) ((10 : Int32) + ((4 : Int32) * v7)) = true) ∧ ((hK h (hR h 1214 v0) = 20) ∧ ((inA h (hR h 1214 v0) ((((30 : Int32) * v1) + ((v4 + v7) + (1 : Int32))) - (1 : Int32)) = true) ∧ ((inA h (hR h 1249 v0) ((11 : Int32) + ((4 : Int32) * v7)) = true) ∧ (WP (d + 1) mX12_appended 236 [some (.ref v0), some (.int v1), some (.float v2), some (.int v3), some (.int v4), some (.int v5), some (.int (1 : Int32)), some (.int v7), some (.int ((v4 + v7) + (1 : Int32))), some (.int ((((30 : Int32) * v1) + ((v4 + v7) + (1 : Int32))) - (1 : Int32)))] [.int (hAI (sAI h (hR h 1214 v0) (((((30 : Int32) * v1) + ((v4 + v7) + (1 : Int32))) - (1 : Int32))).toNatClampNeg (hAI h (hR h 1249 v0) (((10 : Int32) + ((4 : Int32) * v7))).toNatClampNeg)) (hR h 1249 v0) (((11 : Int32) + ((4 : Int32) * v7))).toNatClampNeg), .int ((((30 : Int32) * v1) + ((v4 + v7) + (1 : Int32))) - (1 : Int32)), .ref (hR h 1215 v0)] (sAI h (hR h 1214 v0) (((((30 : Int32) * v1) + ((v4 + v7) + (1 : Int32))) - (1 : Int32))).toNatClampNeg (hAI h (hR h 1249 v0) (((10 : Int32) + ((4 : Int32) * v7))).toNatClampNeg)) Q)))))))) ∧ ((¬ (¬ v6 = 0)) → (hK h v0 = 12) ∧ ((hK h (hR h 1212 v0) = 20) ∧ ((inA h (hR h 1212 v0) v1 = true) ∧ ((((hAI h (hR h 1212 v0) (v1).toNatClampNeg) < ((v4 + v7) + (1 : Int32))) → (((1 : Int32) = 0) → WP (d + 1) mX12_appended 122 [some (.ref v0), some (.int v1), some (.float v2), some (.int v3), some (.int v4), some (.int v5), some (.int (1 : Int32)), some (.int (v7 + (1 : Int32))), some (.int ((v4 + v7) + (1 : Int32))), u9] [] h Q) ∧ ((¬ ((1 : Int32) = 0)) → (hK h (hR h 1249 v0) = 20) ∧ ((inA h (hR h 1249 v0) ((10 : Int32) + ((4 : Int32) * v7)) = true) ∧ ((hK h (hR h 1214 v0) = 20) ∧ ((inA h (hR h 1214 v0) ((((30 : Int32) * v1) + ((v4 + v7) + (1 : Int32))) - (1 : Int32)) = true) ∧ ((inA h (hR h 1249 v0) ((11 : Int32) + ((4 : Int32) * v7)) = true) ∧ (WP (d + 1) mX12_appended 236 [some (.ref v0), some (.int v1), some (.float v2), some (.int v3), some (.int v4), some (.int v5), some (.int (1 : Int32)), some (.int v7), some (.int ((v4 + v7) + (1 : Int32))), some (.int ((((30 : Int32) * v1) + ((v4 + v7) + (1 : Int32))) - (1 : Int32)))] [.int (hAI (sAI h (hR h 1214 v0) (((((30 : Int32) * v1) + ((v4 + v7) + (1 : Int32))) - (1 : Int32))).toNatClampNeg (hAI h (hR h 1249 v0) (((10 : Int32) + ((4 : Int32) * v7))).toNatClampNeg)) (hR h 1249 v0) (((11 : Int32) + ((4 : Int32) * v7))).toNatClampNeg), .int ((((30 : Int32) * v1) + ((v4 + v7) + (1 : Int32))) - (1 : Int32)), .ref (hR h 1215 v0)] (sAI h (hR h 1214 v0) (((((30 : Int32) * v1) + ((v4 + v7) + (1 : Int32))) - (1 : Int32))).toNatClampNeg (hAI h (hR h 1249 v0) (((10 : Int32) + ((4 : Int32) * v7))).toNatClampNeg)) Q))))))) ∧ ((¬ ((hAI h (hR h 1212 v0) (v1).toNatClampNeg) < ((v4 + v7) + (1 : Int32)))) → (1 < v0) ∧ (WP d mX12_termAt 0 [some (.ref v0), some (.int v1), some (.int ((v4 + v7) + (1 : Int32)))] [] h (KK d mX12_appended mX12_termAt 158 [some (.ref v0), some (.int v1), some (.float v2), some (.int v3), some (.int v4), some (.int v5), some (.int v6), some (.int v7), some (.int ((v4 + v7) + (1 : Int32))), u9] [] Q))))))))) : WP (d + 1) mX12_appended 122 [some (.ref v0), some (.int v1), some (.float v2), some (.int v3), some (.int v4), some (.int v5), some (.int v6), some (.int v7), u8, u9] [] h Q := by
  refine w_iload dX12_appended_122 rfl ?_
  refine w_iload dX12_appended_124 rfl ?_
  refine w_ic_ge (pc' := 289) dX12_appended_126 rfl rfl ⟨fun c => ?_, fun c => ?_⟩
  · replace k := k.1 c
    refine w_aload_n dX12_appended_289 rfl ?_
    obtain ⟨g1, k⟩ := k
    refine w_getR dX12_appended_290 f_12_144 t_12_49 g1 ?_
    refine w_bipush dX12_appended_293 i2_6 ?_
    obtain ⟨g2, k⟩ := k
    obtain ⟨g3, k⟩ := k
    refine w_iaload dX12_appended_295 g2 g3 ?_
    refine w_iload dX12_appended_296 rfl ?_
    refine w_iload dX12_appended_298 rfl ?_
    refine w_iadd dX12_appended_300 ?_
    refine w_ic_ge (pc' := 314) dX12_appended_301 rfl rfl ⟨fun c => ?_, fun c => ?_⟩
    · replace k := k.1 c
      refine w_iload dX12_appended_314 rfl ?_
      refine w_iload dX12_appended_316 rfl ?_
      refine w_iadd dX12_appended_318 ?_
      refine w_istore (lo' := [some (.ref v0), some (.int v1), some (.float v2), some (.int v3), some (.int v4), some (.int v5), some (.int v6), some (.int (v4 + v5)), u8, u9]) dX12_appended_319 (ltQ rfl) rfl ?_
      refine w_aload_n dX12_appended_321 rfl ?_
      refine w_getR dX12_appended_322 f_12_45 t_12_13 g1 ?_
      refine w_iload_n dX12_appended_325 rfl ?_
      refine w_iload dX12_appended_326 rfl ?_
      refine w_aload_n dX12_appended_328 rfl ?_
      refine w_getR dX12_appended_329 f_12_45 t_12_13 g1 ?_
      refine w_iload_n dX12_appended_332 rfl ?_
      obtain ⟨g4, k⟩ := k
      obtain ⟨g5, k⟩ := k
      refine w_iaload dX12_appended_333 g4 g5 ?_
      refine w_ic_le (pc' := 342) dX12_appended_334 rfl rfl ⟨fun c => ?_, fun c => ?_⟩
      · replace k := k.1 c
        refine w_aload_n dX12_appended_342 rfl ?_
        refine w_getR dX12_appended_343 f_12_45 t_12_13 g1 ?_
        refine w_iload_n dX12_appended_346 rfl ?_
        refine w_iaload dX12_appended_347 g4 g5 ?_
        refine w_iastore dX12_appended_348 g4 g5 ?_
        refine w_aload_n dX12_appended_349 rfl ?_
        refine w_getR dX12_appended_350 f_12_81 t_12_25 g1 ?_
        refine w_iload_n dX12_appended_353 rfl ?_
        refine w_iload_n dX12_appended_354 rfl ?_
        obtain ⟨g6, k⟩ := k
        obtain ⟨g7, k⟩ := k
        refine w_iastore dX12_appended_355 g6 g7 ?_
        refine w_aload_n dX12_appended_356 rfl ?_
        refine w_getR dX12_appended_357 f_12_84 t_12_26 g1 ?_
        refine w_iload_n dX12_appended_360 rfl ?_
        refine w_aload_n dX12_appended_361 rfl ?_
        refine w_getR dX12_appended_362 f_12_25 t_12_7 g1 ?_
        refine w_iload_n dX12_appended_365 rfl ?_
        obtain ⟨g8, k⟩ := k
        obtain ⟨g9, k⟩ := k
        refine w_faload dX12_appended_366 g8 g9 ?_
        refine w_aload_n dX12_appended_367 rfl ?_
        refine w_getF dX12_appended_368 f_12_14 t_12_2 g1 ?_
        obtain ⟨g10, k⟩ := k
        refine w_fadd dX12_appended_371 g10 ?_
        obtain ⟨g11, k⟩ := k
        obtain ⟨g12, k⟩ := k
        refine w_fastore dX12_appended_372 g11 g12 ?_
        refine w_aload_n dX12_appended_373 rfl ?_
        refine w_iload_n dX12_appended_374 rfl ?_
        refine w_iload_n dX12_appended_375 rfl ?_
        refine w_iconst dX12_appended_376 i1_1 ?_
        refine w_iload dX12_appended_377 rfl ?_
        refine w_iload dX12_appended_379 rfl ?_
        refine w_iadd dX12_appended_381 ?_
        refine w_fload_n dX12_appended_382 rfl ?_
        obtain ⟨g13, k⟩ := k
        exact w_virt (as1 := [.float v2, .int (v4 + v5), .int (1 : Int32), .int v3, .int v1, .ref v0]) (as2 := [.ref v0, .int v1, .int v3, .int (1 : Int32), .int (v4 + v5), .float v2]) (rest := []) (lo2 := [some (.ref v0), some (.int v1), some (.int v3), some (.int (1 : Int32)), some (.int (v4 + v5)), some (.float v2), none]) dX12_appended_383 c_12_245 rfl rfl rfl (Nat.le_of_ble_eq_true rfl) (Nat.le_of_ble_eq_true rfl) rfl (Nat.le_of_ble_eq_true rfl) rfl rfl g13 g1 k
      · replace k := k.2 c
        refine w_iload dX12_appended_337 rfl ?_
        refine w_goto (pc' := 348) dX12_appended_339 rfl rfl ?_
        refine w_iastore dX12_appended_348 g4 g5 ?_
        refine w_aload_n dX12_appended_349 rfl ?_
        refine w_getR dX12_appended_350 f_12_81 t_12_25 g1 ?_
        refine w_iload_n dX12_appended_353 rfl ?_
        refine w_iload_n dX12_appended_354 rfl ?_
        obtain ⟨g14, k⟩ := k
        obtain ⟨g15, k⟩ := k
        refine w_iastore dX12_appended_355 g14 g15 ?_
        refine w_aload_n dX12_appended_356 rfl ?_
        refine w_getR dX12_appended_357 f_12_84 t_12_26 g1 ?_
        refine w_iload_n dX12_appended_360 rfl ?_
        refine w_aload_n dX12_appended_361 rfl ?_
        refine w_getR dX12_appended_362 f_12_25 t_12_7 g1 ?_
        refine w_iload_n dX12_appended_365 rfl ?_
        obtain ⟨g16, k⟩ := k
        obtain ⟨g17, k⟩ := k
        refine w_faload dX12_appended_366 g16 g17 ?_
        refine w_aload_n dX12_appended_367 rfl ?_
        refine w_getF dX12_appended_368 f_12_14 t_12_2 g1 ?_
        obtain ⟨g18, k⟩ := k
        refine w_fadd dX12_appended_371 g18 ?_
        obtain ⟨g19, k⟩ := k
        obtain ⟨g20, k⟩ := k
        refine w_fastore dX12_appended_372 g19 g20 ?_
        refine w_aload_n dX12_appended_373 rfl ?_
        refine w_iload_n dX12_appended_374 rfl ?_
        refine w_iload_n dX12_appended_375 rfl ?_
        refine w_iconst dX12_appended_376 i1_1 ?_
        refine w_iload dX12_appended_377 rfl ?_
        refine w_iload dX12_appended_379 rfl ?_
        refine w_iadd dX12_appended_381 ?_
        refine w_fload_n dX12_appended_382 rfl ?_
        obtain ⟨g21, k⟩ := k
        exact w_virt (as1 := [.float v2, .int (v4 + v5), .int (1 : Int32), .int v3, .int v1, .ref v0]) (as2 := [.ref v0, .int v1, .int v3, .int (1 : Int32), .int (v4 + v5), .float v2]) (rest := []) (lo2 := [some (.ref v0), some (.int v1), some (.int v3), some (.int (1 : Int32)), some (.int (v4 + v5)), some (.float v2), none]) dX12_appended_383 c_12_245 rfl rfl rfl (Nat.le_of_ble_eq_true rfl) (Nat.le_of_ble_eq_true rfl) rfl (Nat.le_of_ble_eq_true rfl) rfl rfl g21 g1 k
    · replace k := k.2 c
      refine w_aload_n dX12_appended_304 rfl ?_
      refine w_getR dX12_appended_305 f_12_144 t_12_49 g1 ?_
      refine w_bipush dX12_appended_308 i2_6 ?_
      refine w_iaload dX12_appended_310 g2 g3 ?_
      refine w_goto (pc' := 319) dX12_appended_311 rfl rfl ?_
      refine w_istore (lo' := [some (.ref v0), some (.int v1), some (.float v2), some (.int v3), some (.int v4), some (.int v5), some (.int v6), some (.int (hAI h (hR h 1249 v0) ((6 : Int32)).toNatClampNeg)), u8, u9]) dX12_appended_319 (ltQ rfl) rfl ?_
      refine w_aload_n dX12_appended_321 rfl ?_
      refine w_getR dX12_appended_322 f_12_45 t_12_13 g1 ?_
      refine w_iload_n dX12_appended_325 rfl ?_
      refine w_iload dX12_appended_326 rfl ?_
      refine w_aload_n dX12_appended_328 rfl ?_
      refine w_getR dX12_appended_329 f_12_45 t_12_13 g1 ?_
      refine w_iload_n dX12_appended_332 rfl ?_
      obtain ⟨g22, k⟩ := k
      obtain ⟨g23, k⟩ := k
      refine w_iaload dX12_appended_333 g22 g23 ?_
      refine w_ic_le (pc' := 342) dX12_appended_334 rfl rfl ⟨fun c => ?_, fun c => ?_⟩
      · replace k := k.1 c
        refine w_aload_n dX12_appended_342 rfl ?_
        refine w_getR dX12_appended_343 f_12_45 t_12_13 g1 ?_
        refine w_iload_n dX12_appended_346 rfl ?_
        refine w_iaload dX12_appended_347 g22 g23 ?_
        refine w_iastore dX12_appended_348 g22 g23 ?_
        refine w_aload_n dX12_appended_349 rfl ?_
        refine w_getR dX12_appended_350 f_12_81 t_12_25 g1 ?_
        refine w_iload_n dX12_appended_353 rfl ?_
        refine w_iload_n dX12_appended_354 rfl ?_
        obtain ⟨g24, k⟩ := k
        obtain ⟨g25, k⟩ := k
        refine w_iastore dX12_appended_355 g24 g25 ?_
        refine w_aload_n dX12_appended_356 rfl ?_
        refine w_getR dX12_appended_357 f_12_84 t_12_26 g1 ?_
        refine w_iload_n dX12_appended_360 rfl ?_
        refine w_aload_n dX12_appended_361 rfl ?_
        refine w_getR dX12_appended_362 f_12_25 t_12_7 g1 ?_
        refine w_iload_n dX12_appended_365 rfl ?_
        obtain ⟨g26, k⟩ := k
        obtain ⟨g27, k⟩ := k
        refine w_faload dX12_appended_366 g26 g27 ?_
        refine w_aload_n dX12_appended_367 rfl ?_
        refine w_getF dX12_appended_368 f_12_14 t_12_2 g1 ?_
        obtain ⟨g28, k⟩ := k
        refine w_fadd dX12_appended_371 g28 ?_
        obtain ⟨g29, k⟩ := k
        obtain ⟨g30, k⟩ := k
        refine w_fastore dX12_appended_372 g29 g30 ?_
        refine w_aload_n dX12_appended_373 rfl ?_
        refine w_iload_n dX12_appended_374 rfl ?_
        refine w_iload_n dX12_appended_375 rfl ?_
        refine w_iconst dX12_appended_376 i1_1 ?_
        refine w_iload dX12_appended_377 rfl ?_
        refine w_iload dX12_appended_379 rfl ?_
        refine w_iadd dX12_appended_381 ?_
        refine w_fload_n dX12_appended_382 rfl ?_
        obtain ⟨g31, k⟩ := k
        exact w_virt (as1 := [.float v2, .int (v4 + v5), .int (1 : Int32), .int v3, .int v1, .ref v0]) (as2 := [.ref v0, .int v1, .int v3, .int (1 : Int32), .int (v4 + v5), .float v2]) (rest := []) (lo2 := [some (.ref v0), some (.int v1), some (.int v3), some (.int (1 : Int32)), some (.int (v4 + v5)), some (.float v2), none]) dX12_appended_383 c_12_245 rfl rfl rfl (Nat.le_of_ble_eq_true rfl) (Nat.le_of_ble_eq_true rfl) rfl (Nat.le_of_ble_eq_true rfl) rfl rfl g31 g1 k
      · replace k := k.2 c
        refine w_iload dX12_appended_337 rfl ?_
        refine w_goto (pc' := 348) dX12_appended_339 rfl rfl ?_
        refine w_iastore dX12_appended_348 g22 g23 ?_
        refine w_aload_n dX12_appended_349 rfl ?_
        refine w_getR dX12_appended_350 f_12_81 t_12_25 g1 ?_
        refine w_iload_n dX12_appended_353 rfl ?_
        refine w_iload_n dX12_appended_354 rfl ?_
        obtain ⟨g32, k⟩ := k
        obtain ⟨g33, k⟩ := k
        refine w_iastore dX12_appended_355 g32 g33 ?_
        refine w_aload_n dX12_appended_356 rfl ?_
        refine w_getR dX12_appended_357 f_12_84 t_12_26 g1 ?_
        refine w_iload_n dX12_appended_360 rfl ?_
        refine w_aload_n dX12_appended_361 rfl ?_
        refine w_getR dX12_appended_362 f_12_25 t_12_7 g1 ?_
        refine w_iload_n dX12_appended_365 rfl ?_
        obtain ⟨g34, k⟩ := k
        obtain ⟨g35, k⟩ := k
        refine w_faload dX12_appended_366 g34 g35 ?_
        refine w_aload_n dX12_appended_367 rfl ?_
        refine w_getF dX12_appended_368 f_12_14 t_12_2 g1 ?_
        obtain ⟨g36, k⟩ := k
        refine w_fadd dX12_appended_371 g36 ?_
        obtain ⟨g37, k⟩ := k
        obtain ⟨g38, k⟩ := k
        refine w_fastore dX12_appended_372 g37 g38 ?_
        refine w_aload_n dX12_appended_373 rfl ?_
        refine w_iload_n dX12_appended_374 rfl ?_
        refine w_iload_n dX12_appended_375 rfl ?_
        refine w_iconst dX12_appended_376 i1_1 ?_
        refine w_iload dX12_appended_377 rfl ?_
        refine w_iload dX12_appended_379 rfl ?_
        refine w_iadd dX12_appended_381 ?_
        refine w_fload_n dX12_appended_382 rfl ?_
        obtain ⟨g39, k⟩ := k
        exact w_virt (as1 := [.float v2, .int (v4 + v5), .int (1 : Int32), .int v3, .int v1, .ref v0]) (as2 := [.ref v0, .int v1, .int v3, .int (1 : Int32), .int (v4 + v5), .float v2]) (rest := []) (lo2 := [some (.ref v0), some (.int v1), some (.int v3), some (.int (1 : Int32)), some (.int (v4 + v5)), some (.float v2), none]) dX12_appended_383 c_12_245 rfl rfl rfl (Nat.le_of_ble_eq_true rfl) (Nat.le_of_ble_eq_true rfl) rfl (Nat.le_of_ble_eq_true rfl) rfl rfl g39 g1 k
  · replace k := k.2 c
    refine w_iload dX12_appended_129 rfl ?_
    refine w_iload dX12_appended_131 rfl ?_
    refine w_iadd dX12_appended_133 ?_
    refine w_iconst dX12_appended_134 i1_1 ?_
    refine w_iadd dX12_appended_135 ?_
    refine w_istore (lo' := [some (.ref v0), some (.int v1), some (.float v2), some (.int v3), some (.int v4), some (.int v5), some (.int v6), some (.int v7), some (.int ((v4 + v7) + (1 : Int32))), u9]) dX12_appended_136 (ltQ rfl) rfl ?_
    refine w_iload dX12_appended_138 rfl ?_
    refine w_if_ne (pc' := 176) dX12_appended_140 rfl rfl ⟨fun c => ?_, fun c => ?_⟩
    · replace k := k.1 c
      refine w_iconst dX12_appended_176 i1_1 ?_
      refine w_goto (pc' := 181) dX12_appended_177 rfl rfl ?_
      refine w_istore (lo' := [some (.ref v0), some (.int v1), some (.float v2), some (.int v3), some (.int v4), some (.int v5), some (.int (1 : Int32)), some (.int v7), some (.int ((v4 + v7) + (1 : Int32))), u9]) dX12_appended_181 (ltQ rfl) rfl ?_
      refine w_iload dX12_appended_183 rfl ?_
      refine w_if_eq (pc' := 283) dX12_appended_185 rfl rfl ⟨fun c => ?_, fun c => ?_⟩
      · replace k := k.1 c
        refine w_iinc (lo' := [some (.ref v0), some (.int v1), some (.float v2), some (.int v3), some (.int v4), some (.int v5), some (.int (1 : Int32)), some (.int (v7 + (1 : Int32))), some (.int ((v4 + v7) + (1 : Int32))), u9]) dX12_appended_283 rfl i1_1 rfl ?_
        refine w_goto (pc' := 122) dX12_appended_286 rfl rfl ?_
        exact k
      · replace k := k.2 c
        refine w_bipush dX12_appended_188 i2_30 ?_
        refine w_iload_n dX12_appended_190 rfl ?_
        refine w_imul dX12_appended_191 ?_
        refine w_iload dX12_appended_192 rfl ?_
        refine w_iadd dX12_appended_194 ?_
        refine w_iconst dX12_appended_195 i1_1 ?_
        refine w_isub dX12_appended_196 ?_
        refine w_istore (lo' := [some (.ref v0), some (.int v1), some (.float v2), some (.int v3), some (.int v4), some (.int v5), some (.int (1 : Int32)), some (.int v7), some (.int ((v4 + v7) + (1 : Int32))), some (.int ((((30 : Int32) * v1) + ((v4 + v7) + (1 : Int32))) - (1 : Int32)))]) dX12_appended_197 (ltQ rfl) rfl ?_
        refine w_aload_n dX12_appended_199 rfl ?_
        obtain ⟨g40, k⟩ := k
        refine w_getR dX12_appended_200 f_12_48 t_12_14 g40 ?_
        refine w_iload dX12_appended_203 rfl ?_
        refine w_aload_n dX12_appended_205 rfl ?_
        refine w_getR dX12_appended_206 f_12_144 t_12_49 g40 ?_
        refine w_bipush dX12_appended_209 i2_10 ?_
        refine w_iconst dX12_appended_211 i1_4 ?_
        refine w_iload dX12_appended_212 rfl ?_
        refine w_imul dX12_appended_214 ?_
        refine w_iadd dX12_appended_215 ?_
        obtain ⟨g41, k⟩ := k
        obtain ⟨g42, k⟩ := k
        refine w_iaload dX12_appended_216 g41 g42 ?_
        obtain ⟨g43, k⟩ := k
        obtain ⟨g44, k⟩ := k
        refine w_iastore dX12_appended_217 g43 g44 ?_
        refine w_aload_n dX12_appended_218 rfl ?_
        refine w_getR dX12_appended_219 f_12_51 t_12_15 g40 ?_
        refine w_iload dX12_appended_222 rfl ?_
        refine w_aload_n dX12_appended_224 rfl ?_
        refine w_getR dX12_appended_225 f_12_144 t_12_49 g40 ?_
        refine w_bipush dX12_appended_228 i2_11 ?_
        refine w_iconst dX12_appended_230 i1_4 ?_
        refine w_iload dX12_appended_231 rfl ?_
        refine w_imul dX12_appended_233 ?_
        refine w_iadd dX12_appended_234 ?_
        obtain ⟨g45, k⟩ := k
        refine w_iaload dX12_appended_235 g41 g45 ?_
        exact k
    · replace k := k.2 c
      refine w_iload dX12_appended_143 rfl ?_
      refine w_aload_n dX12_appended_145 rfl ?_
      obtain ⟨g46, k⟩ := k
      refine w_getR dX12_appended_146 f_12_42 t_12_12 g46 ?_
      refine w_iload_n dX12_appended_149 rfl ?_
      obtain ⟨g47, k⟩ := k
      obtain ⟨g48, k⟩ := k
      refine w_iaload dX12_appended_150 g47 g48 ?_
      refine w_ic_gt (pc' := 176) dX12_appended_151 rfl rfl ⟨fun c => ?_, fun c => ?_⟩
      · replace k := k.1 c
        refine w_iconst dX12_appended_176 i1_1 ?_
        refine w_goto (pc' := 181) dX12_appended_177 rfl rfl ?_
        refine w_istore (lo' := [some (.ref v0), some (.int v1), some (.float v2), some (.int v3), some (.int v4), some (.int v5), some (.int (1 : Int32)), some (.int v7), some (.int ((v4 + v7) + (1 : Int32))), u9]) dX12_appended_181 (ltQ rfl) rfl ?_
        refine w_iload dX12_appended_183 rfl ?_
        refine w_if_eq (pc' := 283) dX12_appended_185 rfl rfl ⟨fun c => ?_, fun c => ?_⟩
        · replace k := k.1 c
          refine w_iinc (lo' := [some (.ref v0), some (.int v1), some (.float v2), some (.int v3), some (.int v4), some (.int v5), some (.int (1 : Int32)), some (.int (v7 + (1 : Int32))), some (.int ((v4 + v7) + (1 : Int32))), u9]) dX12_appended_283 rfl i1_1 rfl ?_
          refine w_goto (pc' := 122) dX12_appended_286 rfl rfl ?_
          exact k
        · replace k := k.2 c
          refine w_bipush dX12_appended_188 i2_30 ?_
          refine w_iload_n dX12_appended_190 rfl ?_
          refine w_imul dX12_appended_191 ?_
          refine w_iload dX12_appended_192 rfl ?_
          refine w_iadd dX12_appended_194 ?_
          refine w_iconst dX12_appended_195 i1_1 ?_
          refine w_isub dX12_appended_196 ?_
          refine w_istore (lo' := [some (.ref v0), some (.int v1), some (.float v2), some (.int v3), some (.int v4), some (.int v5), some (.int (1 : Int32)), some (.int v7), some (.int ((v4 + v7) + (1 : Int32))), some (.int ((((30 : Int32) * v1) + ((v4 + v7) + (1 : Int32))) - (1 : Int32)))]) dX12_appended_197 (ltQ rfl) rfl ?_
          refine w_aload_n dX12_appended_199 rfl ?_
          refine w_getR dX12_appended_200 f_12_48 t_12_14 g46 ?_
          refine w_iload dX12_appended_203 rfl ?_
          refine w_aload_n dX12_appended_205 rfl ?_
          refine w_getR dX12_appended_206 f_12_144 t_12_49 g46 ?_
          refine w_bipush dX12_appended_209 i2_10 ?_
          refine w_iconst dX12_appended_211 i1_4 ?_
          refine w_iload dX12_appended_212 rfl ?_
          refine w_imul dX12_appended_214 ?_
          refine w_iadd dX12_appended_215 ?_
          obtain ⟨g49, k⟩ := k
          obtain ⟨g50, k⟩ := k
          refine w_iaload dX12_appended_216 g49 g50 ?_
          obtain ⟨g51, k⟩ := k
          obtain ⟨g52, k⟩ := k
          refine w_iastore dX12_appended_217 g51 g52 ?_
          refine w_aload_n dX12_appended_218 rfl ?_
          refine w_getR dX12_appended_219 f_12_51 t_12_15 g46 ?_
          refine w_iload dX12_appended_222 rfl ?_
          refine w_aload_n dX12_appended_224 rfl ?_
          refine w_getR dX12_appended_225 f_12_144 t_12_49 g46 ?_
          refine w_bipush dX12_appended_228 i2_11 ?_
          refine w_iconst dX12_appended_230 i1_4 ?_
          refine w_iload dX12_appended_231 rfl ?_
          refine w_imul dX12_appended_233 ?_
          refine w_iadd dX12_appended_234 ?_
          obtain ⟨g53, k⟩ := k
          refine w_iaload dX12_appended_235 g49 g53 ?_
          exact k
      · replace k := k.2 c
        refine w_aload_n dX12_appended_154 rfl ?_
        refine w_iload_n dX12_appended_155 rfl ?_
        refine w_iload dX12_appended_156 rfl ?_
        obtain ⟨g54, k⟩ := k
        exact w_virt (as1 := [.int ((v4 + v7) + (1 : Int32)), .int v1, .ref v0]) (as2 := [.ref v0, .int v1, .int ((v4 + v7) + (1 : Int32))]) (rest := []) (lo2 := [some (.ref v0), some (.int v1), some (.int ((v4 + v7) + (1 : Int32)))]) dX12_appended_158 c_12_233 rfl rfl rfl (Nat.le_of_ble_eq_true rfl) (Nat.le_of_ble_eq_true rfl) rfl (Nat.le_of_ble_eq_true rfl) rfl rfl g54 g46 k
theorem bX12_appended_161 {d : Nat} {h : HP} {Q : Out → HP → Prop} {v0 : Nat} {v1 : Int32} {v2 : UInt32} {v3 : Int32} {v4 : Int32} {v5 : Int32} {v6 : Int32} {v7 : Int32} {v8 : Int32} {u9 : Option Value} {s0 : Int32} (k : (hK h v0 = 12) ∧ ((hK h (hR h 1249 v0) = 20) ∧ ((inA h (hR h 1249 v0) ((10 : Int32) + ((4 : Int32) * v7)) = true) ∧ (((s0 = (hAI h (hR h 1249 v0) (((10 : Int32) + ((4 : Int32) * v7))).toNatClampNeg)) → (((0 : Int32) = 0) → WP d mX12_appended 122 [some (.ref v0), some (.int v1), some (.float v2), some (.int v3), some (.int v4), some (.int v5), some (.int (0 : Int32)), some (.int (v7 + (1 : Int32))), some (.int v8), u9] [] h Q) ∧ ((¬ ((0 : Int32) = 0)) → (hK h (hR h 1214 v0) = 20) ∧ ((inA h (hR h 1214 v0) ((((30 : Int32) * v1) + v8) - (1 : Int32)) = true) ∧ ((inA h (hR h 1249 v0) ((11 : Int32) + ((4 : Int32) * v7)) = true) ∧ (WP d mX12_appended 236 [some (.ref v0), some (.int v1), some (.float v2), some (.int v3), some (.int v4), some (.int v5), some (.int (0 : Int32)), some (.int v7), some (.int v8), some (.int ((((30 : Int32) * v1) + v8) - (1 : Int32)))] [.int (hAI (sAI h (hR h 1214 v0) (((((30 : Int32) * v1) + v8) - (1 : Int32))).toNatClampNeg (hAI h (hR h 1249 v0) (((10 : Int32) + ((4 : Int32) * v7))).toNatClampNeg)) (hR h 1249 v0) (((11 : Int32) + ((4 : Int32) * v7))).toNatClampNeg), .int ((((30 : Int32) * v1) + v8) - (1 : Int32)), .ref (hR h 1215 v0)] (sAI h (hR h 1214 v0) (((((30 : Int32) * v1) + v8) - (1 : Int32))).toNatClampNeg (hAI h (hR h 1249 v0) (((10 : Int32) + ((4 : Int32) * v7))).toNatClampNeg)) Q))))) ∧ ((¬ (s0 = (hAI h (hR h 1249 v0) (((10 : Int32) + ((4 : Int32) * v7))).toNatClampNeg))) → (((1 : Int32) = 0) → WP d mX12_appended 122 [some (.ref v0), some (.int v1), some (.float v2), some (.int v3), some (.int v4), some (.int v5), some (.int (1 : Int32)), some (.int (v7 + (1 : Int32))), some (.int v8), u9] [] h Q) ∧ ((¬ ((1 : Int32) = 0)) → (hK h (hR h 1214 v0) = 20) ∧ ((inA h (hR h 1214 v0) ((((30 : Int32) * v1) + v8) - (1 : Int32)) = true) ∧ ((inA h (hR h 1249 v0) ((11 : Int32) + ((4 : Int32) * v7)) = true) ∧ (WP d mX12_appended 236 [some (.ref v0), some (.int v1), some (.float v2), some (.int v3), some (.int v4), some (.int v5), some (.int (1 : Int32)), some (.int v7), some (.int v8), some (.int ((((30 : Int32) * v1) + v8) - (1 : Int32)))] [.int (hAI (sAI h (hR h 1214 v0) (((((30 : Int32) * v1) + v8) - (1 : Int32))).toNatClampNeg (hAI h (hR h 1249 v0) (((10 : Int32) + ((4 : Int32) * v7))).toNatClampNeg)) (hR h 1249 v0) (((11 : Int32) + ((4 : Int32) * v7))).toNatClampNeg), .int ((((30 : Int32) * v1) + v8) - (1 : Int32)), .ref (hR h 1215 v0)] (sAI h (hR h 1214 v0) (((((30 : Int32) * v1) + v8) - (1 : Int32))).toNatClampNeg (hAI h (hR h 1249 v0) (((10 : Int32) + ((4 : Int32) * v7))).toNatClampNeg)) Q))))))))) : WP d mX12_appended 161 [some (.ref v0), some (.int v1), some (.float v2), some (.int v3), some (.int v4), some (.int v5), some (.int v6), some (.int v7), some (.int v8), u9] [.int s0] h Q := by
  refine w_aload_n dX12_appended_161 rfl ?_
  obtain ⟨g1, k⟩ := k
  refine w_getR dX12_appended_162 f_12_144 t_12_49 g1 ?_
  refine w_bipush dX12_appended_165 i2_10 ?_
  refine w_iconst dX12_appended_167 i1_4 ?_
  refine w_iload dX12_appended_168 rfl ?_
  refine w_imul dX12_appended_170 ?_
  refine w_iadd dX12_appended_171 ?_
  obtain ⟨g2, k⟩ := k
  obtain ⟨g3, k⟩ := k
  refine w_iaload dX12_appended_172 g2 g3 ?_
  refine w_ic_eq (pc' := 180) dX12_appended_173 rfl rfl ⟨fun c => ?_, fun c => ?_⟩
  · replace k := k.1 c
    refine w_iconst dX12_appended_180 i1_0 ?_
    refine w_istore (lo' := [some (.ref v0), some (.int v1), some (.float v2), some (.int v3), some (.int v4), some (.int v5), some (.int (0 : Int32)), some (.int v7), some (.int v8), u9]) dX12_appended_181 (ltQ rfl) rfl ?_
    refine w_iload dX12_appended_183 rfl ?_
    refine w_if_eq (pc' := 283) dX12_appended_185 rfl rfl ⟨fun c => ?_, fun c => ?_⟩
    · replace k := k.1 c
      refine w_iinc (lo' := [some (.ref v0), some (.int v1), some (.float v2), some (.int v3), some (.int v4), some (.int v5), some (.int (0 : Int32)), some (.int (v7 + (1 : Int32))), some (.int v8), u9]) dX12_appended_283 rfl i1_1 rfl ?_
      refine w_goto (pc' := 122) dX12_appended_286 rfl rfl ?_
      exact k
    · replace k := k.2 c
      refine w_bipush dX12_appended_188 i2_30 ?_
      refine w_iload_n dX12_appended_190 rfl ?_
      refine w_imul dX12_appended_191 ?_
      refine w_iload dX12_appended_192 rfl ?_
      refine w_iadd dX12_appended_194 ?_
      refine w_iconst dX12_appended_195 i1_1 ?_
      refine w_isub dX12_appended_196 ?_
      refine w_istore (lo' := [some (.ref v0), some (.int v1), some (.float v2), some (.int v3), some (.int v4), some (.int v5), some (.int (0 : Int32)), some (.int v7), some (.int v8), some (.int ((((30 : Int32) * v1) + v8) - (1 : Int32)))]) dX12_appended_197 (ltQ rfl) rfl ?_
      refine w_aload_n dX12_appended_199 rfl ?_
      refine w_getR dX12_appended_200 f_12_48 t_12_14 g1 ?_
      refine w_iload dX12_appended_203 rfl ?_
      refine w_aload_n dX12_appended_205 rfl ?_
      refine w_getR dX12_appended_206 f_12_144 t_12_49 g1 ?_
      refine w_bipush dX12_appended_209 i2_10 ?_
      refine w_iconst dX12_appended_211 i1_4 ?_
      refine w_iload dX12_appended_212 rfl ?_
      refine w_imul dX12_appended_214 ?_
      refine w_iadd dX12_appended_215 ?_
      refine w_iaload dX12_appended_216 g2 g3 ?_
      obtain ⟨g4, k⟩ := k
      obtain ⟨g5, k⟩ := k
      refine w_iastore dX12_appended_217 g4 g5 ?_
      refine w_aload_n dX12_appended_218 rfl ?_
      refine w_getR dX12_appended_219 f_12_51 t_12_15 g1 ?_
      refine w_iload dX12_appended_222 rfl ?_
      refine w_aload_n dX12_appended_224 rfl ?_
      refine w_getR dX12_appended_225 f_12_144 t_12_49 g1 ?_
      refine w_bipush dX12_appended_228 i2_11 ?_
      refine w_iconst dX12_appended_230 i1_4 ?_
      refine w_iload dX12_appended_231 rfl ?_
      refine w_imul dX12_appended_233 ?_
      refine w_iadd dX12_appended_234 ?_
      obtain ⟨g6, k⟩ := k
      refine w_iaload dX12_appended_235 g2 g6 ?_
      exact k
  · replace k := k.2 c
    refine w_iconst dX12_appended_176 i1_1 ?_
    refine w_goto (pc' := 181) dX12_appended_177 rfl rfl ?_
    refine w_istore (lo' := [some (.ref v0), some (.int v1), some (.float v2), some (.int v3), some (.int v4), some (.int v5), some (.int (1 : Int32)), some (.int v7), some (.int v8), u9]) dX12_appended_181 (ltQ rfl) rfl ?_
    refine w_iload dX12_appended_183 rfl ?_
    refine w_if_eq (pc' := 283) dX12_appended_185 rfl rfl ⟨fun c => ?_, fun c => ?_⟩
    · replace k := k.1 c
      refine w_iinc (lo' := [some (.ref v0), some (.int v1), some (.float v2), some (.int v3), some (.int v4), some (.int v5), some (.int (1 : Int32)), some (.int (v7 + (1 : Int32))), some (.int v8), u9]) dX12_appended_283 rfl i1_1 rfl ?_
      refine w_goto (pc' := 122) dX12_appended_286 rfl rfl ?_
      exact k
    · replace k := k.2 c
      refine w_bipush dX12_appended_188 i2_30 ?_
      refine w_iload_n dX12_appended_190 rfl ?_
      refine w_imul dX12_appended_191 ?_
      refine w_iload dX12_appended_192 rfl ?_
      refine w_iadd dX12_appended_194 ?_
      refine w_iconst dX12_appended_195 i1_1 ?_
      refine w_isub dX12_appended_196 ?_
      refine w_istore (lo' := [some (.ref v0), some (.int v1), some (.float v2), some (.int v3), some (.int v4), some (.int v5), some (.int (1 : Int32)), some (.int v7), some (.int v8), some (.int ((((30 : Int32) * v1) + v8) - (1 : Int32)))]) dX12_appended_197 (ltQ rfl) rfl ?_
      refine w_aload_n dX12_appended_199 rfl ?_
      refine w_getR dX12_appended_200 f_12_48 t_12_14 g1 ?_
      refine w_iload dX12_appended_203 rfl ?_
      refine w_aload_n dX12_appended_205 rfl ?_
      refine w_getR dX12_appended_206 f_12_144 t_12_49 g1 ?_
      refine w_bipush dX12_appended_209 i2_10 ?_
      refine w_iconst dX12_appended_211 i1_4 ?_
      refine w_iload dX12_appended_212 rfl ?_
      refine w_imul dX12_appended_214 ?_
      refine w_iadd dX12_appended_215 ?_
      refine w_iaload dX12_appended_216 g2 g3 ?_
      obtain ⟨g7, k⟩ := k
      obtain ⟨g8, k⟩ := k
      refine w_iastore dX12_appended_217 g7 g8 ?_
      refine w_aload_n dX12_appended_218 rfl ?_
      refine w_getR dX12_appended_219 f_12_51 t_12_15 g1 ?_
      refine w_iload dX12_appended_222 rfl ?_
      refine w_aload_n dX12_appended_224 rfl ?_
      refine w_getR dX12_appended_225 f_12_144 t_12_49 g1 ?_
      refine w_bipush dX12_appended_228 i2_11 ?_
      refine w_iconst dX12_appended_230 i1_4 ?_
      refine w_iload dX12_appended_231 rfl ?_
      refine w_imul dX12_appended_233 ?_
      refine w_iadd dX12_appended_234 ?_
      obtain ⟨g9, k⟩ := k
      refine w_iaload dX12_appended_235 g2 g9 ?_
      exact k
theorem bX12_appended_236 {d : Nat} {h : HP} {Q : Out → HP → Prop} {v0 : Nat} {v1 : Int32} {v2 : UInt32} {v3 : Int32} {v4 : Int32} {v5 : Int32} {v6 : Int32} {v7 : Int32} {v8 : Int32} {v9 : Int32} {s0 : Int32} {s1 : Int32} {s2 : Nat} (k : (hK h s2 = 20) ∧ ((inA h s2 s1 = true) ∧ ((hK h v0 = 12) ∧ ((hK h (hR h 1249 v0) = 20) ∧ ((inA h (hR h 1249 v0) ((12 : Int32) + ((4 : Int32) * v7)) = true) ∧ ((hK h (hR h 1216 v0) = 20) ∧ ((inA h (hR h 1216 v0) v9 = true) ∧ ((inA h (hR h 1249 v0) ((13 : Int32) + ((4 : Int32) * v7)) = true) ∧ ((hK h (hR h 1217 v0) = 20) ∧ ((inA h (hR h 1217 v0) v9 = true) ∧ (WP d mX12_appended 280 [some (.ref v0), some (.int v1), some (.float v2), some (.int v3), some (.int v4), some (.int v5), some (.int v6), some (.int v7), some (.int v8), some (.int v9)] [.int v1, .ref (hR h 1212 v0)] (sAI (sAI (sAI h s2 (s1).toNatClampNeg s0) (hR h 1216 v0) (v9).toNatClampNeg (hAI (sAI h s2 (s1).toNatClampNeg s0) (hR h 1249 v0) (((12 : Int32) + ((4 : Int32) * v7))).toNatClampNeg)) (hR h 1217 v0) (v9).toNatClampNeg (hAI (sAI (sAI h s2 (s1).toNatClampNeg s0) (hR h 1216 v0) (v9).toNatClampNeg (hAI (sAI h s2 (s1).toNatClampNeg s0) (hR h 1249 v0) (((12 : Int32) + ((4 : Int32) * v7))).toNatClampNeg)) (hR h 1249 v0) (((13 : Int32) + ((4 : Int32) * v7))).toNatClampNeg)) Q))))))))))) : WP d mX12_appended 236 [some (.ref v0), some (.int v1), some (.float v2), some (.int v3), some (.int v4), some (.int v5), some (.int v6), some (.int v7), some (.int v8), some (.int v9)] [.int s0, .int s1, .ref s2] h Q := by
  obtain ⟨g1, k⟩ := k
  obtain ⟨g2, k⟩ := k
  refine w_iastore dX12_appended_236 g1 g2 ?_
  refine w_aload_n dX12_appended_237 rfl ?_
  obtain ⟨g3, k⟩ := k
  refine w_getR dX12_appended_238 f_12_54 t_12_16 g3 ?_
  refine w_iload dX12_appended_241 rfl ?_
  refine w_aload_n dX12_appended_243 rfl ?_
  refine w_getR dX12_appended_244 f_12_144 t_12_49 g3 ?_
  refine w_bipush dX12_appended_247 i2_12 ?_
  refine w_iconst dX12_appended_249 i1_4 ?_
  refine w_iload dX12_appended_250 rfl ?_
  refine w_imul dX12_appended_252 ?_
  refine w_iadd dX12_appended_253 ?_
  obtain ⟨g4, k⟩ := k
  obtain ⟨g5, k⟩ := k
  refine w_iaload dX12_appended_254 g4 g5 ?_
  obtain ⟨g6, k⟩ := k
  obtain ⟨g7, k⟩ := k
  refine w_iastore dX12_appended_255 g6 g7 ?_
  refine w_aload_n dX12_appended_256 rfl ?_
  refine w_getR dX12_appended_257 f_12_57 t_12_17 g3 ?_
  refine w_iload dX12_appended_260 rfl ?_
  refine w_aload_n dX12_appended_262 rfl ?_
  refine w_getR dX12_appended_263 f_12_144 t_12_49 g3 ?_
  refine w_bipush dX12_appended_266 i2_13 ?_
  refine w_iconst dX12_appended_268 i1_4 ?_
  refine w_iload dX12_appended_269 rfl ?_
  refine w_imul dX12_appended_271 ?_
  refine w_iadd dX12_appended_272 ?_
  obtain ⟨g8, k⟩ := k
  refine w_iaload dX12_appended_273 g4 g8 ?_
  obtain ⟨g9, k⟩ := k
  obtain ⟨g10, k⟩ := k
  refine w_iastore dX12_appended_274 g9 g10 ?_
  refine w_aload_n dX12_appended_275 rfl ?_
  refine w_getR dX12_appended_276 f_12_42 t_12_12 g3 ?_
  refine w_iload_n dX12_appended_279 rfl ?_
  exact k
theorem bX12_appended_280 {d : Nat} {h : HP} {Q : Out → HP → Prop} {v0 : Nat} {v1 : Int32} {v2 : UInt32} {v3 : Int32} {v4 : Int32} {v5 : Int32} {v6 : Int32} {v7 : Int32} {v8 : Int32} {v9 : Int32} {s0 : Int32} {s1 : Nat} (k : (hK h s1 = 20) ∧ ((inA h s1 s0 = true) ∧ (WP d mX12_appended 122 [some (.ref v0), some (.int v1), some (.float v2), some (.int v3), some (.int v4), some (.int v5), some (.int v6), some (.int (v7 + (1 : Int32))), some (.int v8), some (.int v9)] [] (sAI h s1 (s0).toNatClampNeg v8) Q))) : WP d mX12_appended 280 [some (.ref v0), some (.int v1), some (.float v2), some (.int v3), some (.int v4), some (.int v5), some (.int v6), some (.int v7), some (.int v8), some (.int v9)] [.int s0, .ref s1] h Q := by
  refine w_iload dX12_appended_280 rfl ?_
  obtain ⟨g1, k⟩ := k
  obtain ⟨g2, k⟩ := k
  refine w_iastore dX12_appended_282 g1 g2 ?_
  refine w_iinc (lo' := [some (.ref v0), some (.int v1), some (.float v2), some (.int v3), some (.int v4), some (.int v5), some (.int v6), some (.int (v7 + (1 : Int32))), some (.int v8), some (.int v9)]) dX12_appended_283 rfl i1_1 rfl ?_
  refine w_goto (pc' := 122) dX12_appended_286 rfl rfl ?_
  exact k
theorem bX12_appended_386 {d : Nat} {h : HP} {Q : Out → HP → Prop} {v0 : Nat} {v1 : Int32} {v2 : UInt32} {v3 : Int32} {v4 : Int32} {v5 : Int32} {v6 : Int32} {v7 : Int32} {u8 : Option Value} {u9 : Option Value} (k : Q (.inl none) h) : WP d mX12_appended 386 [some (.ref v0), some (.int v1), some (.float v2), some (.int v3), some (.int v4), some (.int v5), some (.int v6), some (.int v7), u8, u9] [] h Q := by
  exact w_return dX12_appended_386 rfl k
theorem bX12_rankedSame_0 {d : Nat} {h : HP} {Q : Out → HP → Prop} {v0 : Nat} {v1 : Int32} {v2 : Int32} {u3 : Option Value} {u4 : Option Value} {u5 : Option Value} {u6 : Option Value} (k : (hK h v0 = 12) ∧ ((hK h (hR h 1212 v0) = 20) ∧ ((inA h (hR h 1212 v0) v1 = true) ∧ (WP d mX12_rankedSame 10 [some (.ref v0), some (.int v1), some (.int v2), some (.int (0 : Int32)), some (.int (hAI h (hR h 1212 v0) (v1).toNatClampNeg)), u5, u6] [] h Q)))) : WP d mX12_rankedSame 0 [some (.ref v0), some (.int v1), some (.int v2), u3, u4, u5, u6] [] h Q := by
  refine w_iconst dX12_rankedSame_0 i1_0 ?_
  refine w_istore_n (lo' := [some (.ref v0), some (.int v1), some (.int v2), some (.int (0 : Int32)), u4, u5, u6]) dX12_rankedSame_1 (ltQ rfl) rfl ?_
  refine w_aload_n dX12_rankedSame_2 rfl ?_
  obtain ⟨g1, k⟩ := k
  refine w_getR dX12_rankedSame_3 f_12_42 t_12_12 g1 ?_
  refine w_iload_n dX12_rankedSame_6 rfl ?_
  obtain ⟨g2, k⟩ := k
  obtain ⟨g3, k⟩ := k
  refine w_iaload dX12_rankedSame_7 g2 g3 ?_
  refine w_istore (lo' := [some (.ref v0), some (.int v1), some (.int v2), some (.int (0 : Int32)), some (.int (hAI h (hR h 1212 v0) (v1).toNatClampNeg)), u5, u6]) dX12_rankedSame_8 (ltQ rfl) rfl ?_
  exact k
theorem bX12_rankedSame_10 {d : Nat} {h : HP} {Q : Out → HP → Prop} {v0 : Nat} {v1 : Int32} {v2 : Int32} {v3 : Int32} {v4 : Int32} {u5 : Option Value} {u6 : Option Value} (k : ((v4 ≤ 0) → Q (.inl (some (.int v3))) h) ∧ ((¬ (v4 ≤ 0)) → ((¬ v3 = 0) → Q (.inl (some (.int v3))) h) ∧ ((¬ (¬ v3 = 0)) → WP d mX12_rankedSame 25 [some (.ref v0), some (.int v1), some (.int v2), some (.int v3), some (.int v4), some (.int (0 : Int32)), some (.int (0 : Int32))] [] h Q))) : WP d mX12_rankedSame 10 [some (.ref v0), some (.int v1), some (.int v2), some (.int v3), some (.int v4), u5, u6] [] h Q := by
  refine w_iload dX12_rankedSame_10 rfl ?_
  refine w_if_le (pc' := 91) dX12_rankedSame_12 rfl rfl ⟨fun c => ?_, fun c => ?_⟩
  · replace k := k.1 c
    refine w_iload_n dX12_rankedSame_91 rfl ?_
    exact w_ireturn dX12_rankedSame_92 rfl k
  · replace k := k.2 c
    refine w_iload_n dX12_rankedSame_15 rfl ?_
    refine w_if_ne (pc' := 91) dX12_rankedSame_16 rfl rfl ⟨fun c => ?_, fun c => ?_⟩
    · replace k := k.1 c
      refine w_iload_n dX12_rankedSame_91 rfl ?_
      exact w_ireturn dX12_rankedSame_92 rfl k
    · replace k := k.2 c
      refine w_iconst dX12_rankedSame_19 i1_0 ?_
      refine w_istore (lo' := [some (.ref v0), some (.int v1), some (.int v2), some (.int v3), some (.int v4), some (.int (0 : Int32)), u6]) dX12_rankedSame_20 (ltQ rfl) rfl ?_
      refine w_iconst dX12_rankedSame_22 i1_0 ?_
      refine w_istore (lo' := [some (.ref v0), some (.int v1), some (.int v2), some (.int v3), some (.int v4), some (.int (0 : Int32)), some (.int (0 : Int32))]) dX12_rankedSame_23 (ltQ rfl) rfl ?_
      exact k
theorem bX12_rankedSame_25 {d : Nat} {h : HP} {Q : Out → HP → Prop} {v0 : Nat} {v1 : Int32} {v2 : Int32} {v3 : Int32} {v4 : Int32} {v5 : Int32} {v6 : Int32} (k : (hK h v0 = 12) ∧ ((((hI h 1200 v0) ≤ v6) → ((v5 < v2) → WP d mX12_rankedSame 10 [some (.ref v0), some (.int v1), some (.int v2), some (.int (0 : Int32)), some (.int (v4 + (-1 : Int32))), some (.int v5), some (.int v6)] [] h Q) ∧ ((¬ (v5 < v2)) → WP d mX12_rankedSame 10 [some (.ref v0), some (.int v1), some (.int v2), some (.int v4), some (.int (v4 + (-1 : Int32))), some (.int v5), some (.int v6)] [] h Q)) ∧ ((¬ ((hI h 1200 v0) ≤ v6)) → ((v6 = v1) → WP d mX12_rankedSame 25 [some (.ref v0), some (.int v1), some (.int v2), some (.int v3), some (.int v4), some (.int (v5 + (0 : Int32))), some (.int (v6 + (1 : Int32)))] [] h Q) ∧ ((¬ (v6 = v1)) → (hK h (hR h 1220 v0) = 20) ∧ ((inA h (hR h 1220 v0) (((5 : Int32) * v1) + v6) = true) ∧ ((((hAI h (hR h 1220 v0) ((((5 : Int32) * v1) + v6)).toNatClampNeg) < v4) → WP d mX12_rankedSame 25 [some (.ref v0), some (.int v1), some (.int v2), some (.int v3), some (.int v4), some (.int (v5 + (0 : Int32))), some (.int (v6 + (1 : Int32)))] [] h Q) ∧ ((¬ ((hAI h (hR h 1220 v0) ((((5 : Int32) * v1) + v6)).toNatClampNeg) < v4)) → WP d mX12_rankedSame 25 [some (.ref v0), some (.int v1), some (.int v2), some (.int v3), some (.int v4), some (.int (v5 + (1 : Int32))), some (.int (v6 + (1 : Int32)))] [] h Q))))))) : WP d mX12_rankedSame 25 [some (.ref v0), some (.int v1), some (.int v2), some (.int v3), some (.int v4), some (.int v5), some (.int v6)] [] h Q := by
  refine w_iload dX12_rankedSame_25 rfl ?_
  refine w_aload_n dX12_rankedSame_27 rfl ?_
  obtain ⟨g1, k⟩ := k
  refine w_getI dX12_rankedSame_28 f_12_7 t_12_0 g1 ?_
  refine w_ic_ge (pc' := 72) dX12_rankedSame_31 rfl rfl ⟨fun c => ?_, fun c => ?_⟩
  · replace k := k.1 c
    refine w_iload dX12_rankedSame_72 rfl ?_
    refine w_iload_n dX12_rankedSame_74 rfl ?_
    refine w_ic_lt (pc' := 83) dX12_rankedSame_75 rfl rfl ⟨fun c => ?_, fun c => ?_⟩
    · replace k := k.1 c
      refine w_iconst dX12_rankedSame_83 i1_0 ?_
      refine w_istore_n (lo' := [some (.ref v0), some (.int v1), some (.int v2), some (.int (0 : Int32)), some (.int v4), some (.int v5), some (.int v6)]) dX12_rankedSame_84 (ltQ rfl) rfl ?_
      refine w_iinc (lo' := [some (.ref v0), some (.int v1), some (.int v2), some (.int (0 : Int32)), some (.int (v4 + (-1 : Int32))), some (.int v5), some (.int v6)]) dX12_rankedSame_85 rfl i1_m1 rfl ?_
      refine w_goto (pc' := 10) dX12_rankedSame_88 rfl rfl ?_
      exact k
    · replace k := k.2 c
      refine w_iload dX12_rankedSame_78 rfl ?_
      refine w_goto (pc' := 84) dX12_rankedSame_80 rfl rfl ?_
      refine w_istore_n (lo' := [some (.ref v0), some (.int v1), some (.int v2), some (.int v4), some (.int v4), some (.int v5), some (.int v6)]) dX12_rankedSame_84 (ltQ rfl) rfl ?_
      refine w_iinc (lo' := [some (.ref v0), some (.int v1), some (.int v2), some (.int v4), some (.int (v4 + (-1 : Int32))), some (.int v5), some (.int v6)]) dX12_rankedSame_85 rfl i1_m1 rfl ?_
      refine w_goto (pc' := 10) dX12_rankedSame_88 rfl rfl ?_
      exact k
  · replace k := k.2 c
    refine w_iload dX12_rankedSame_34 rfl ?_
    refine w_iload dX12_rankedSame_36 rfl ?_
    refine w_iload_n dX12_rankedSame_38 rfl ?_
    refine w_ic_eq (pc' := 62) dX12_rankedSame_39 rfl rfl ⟨fun c => ?_, fun c => ?_⟩
    · replace k := k.1 c
      refine w_iconst dX12_rankedSame_62 i1_0 ?_
      refine w_iadd dX12_rankedSame_63 ?_
      refine w_istore (lo' := [some (.ref v0), some (.int v1), some (.int v2), some (.int v3), some (.int v4), some (.int (v5 + (0 : Int32))), some (.int v6)]) dX12_rankedSame_64 (ltQ rfl) rfl ?_
      refine w_iinc (lo' := [some (.ref v0), some (.int v1), some (.int v2), some (.int v3), some (.int v4), some (.int (v5 + (0 : Int32))), some (.int (v6 + (1 : Int32)))]) dX12_rankedSame_66 rfl i1_1 rfl ?_
      refine w_goto (pc' := 25) dX12_rankedSame_69 rfl rfl ?_
      exact k
    · replace k := k.2 c
      refine w_aload_n dX12_rankedSame_42 rfl ?_
      refine w_getR dX12_rankedSame_43 f_12_66 t_12_20 g1 ?_
      refine w_iconst dX12_rankedSame_46 i1_5 ?_
      refine w_iload_n dX12_rankedSame_47 rfl ?_
      refine w_imul dX12_rankedSame_48 ?_
      refine w_iload dX12_rankedSame_49 rfl ?_
      refine w_iadd dX12_rankedSame_51 ?_
      obtain ⟨g2, k⟩ := k
      obtain ⟨g3, k⟩ := k
      refine w_iaload dX12_rankedSame_52 g2 g3 ?_
      refine w_iload dX12_rankedSame_53 rfl ?_
      refine w_ic_lt (pc' := 62) dX12_rankedSame_55 rfl rfl ⟨fun c => ?_, fun c => ?_⟩
      · replace k := k.1 c
        refine w_iconst dX12_rankedSame_62 i1_0 ?_
        refine w_iadd dX12_rankedSame_63 ?_
        refine w_istore (lo' := [some (.ref v0), some (.int v1), some (.int v2), some (.int v3), some (.int v4), some (.int (v5 + (0 : Int32))), some (.int v6)]) dX12_rankedSame_64 (ltQ rfl) rfl ?_
        refine w_iinc (lo' := [some (.ref v0), some (.int v1), some (.int v2), some (.int v3), some (.int v4), some (.int (v5 + (0 : Int32))), some (.int (v6 + (1 : Int32)))]) dX12_rankedSame_66 rfl i1_1 rfl ?_
        refine w_goto (pc' := 25) dX12_rankedSame_69 rfl rfl ?_
        exact k
      · replace k := k.2 c
        refine w_iconst dX12_rankedSame_58 i1_1 ?_
        refine w_goto (pc' := 63) dX12_rankedSame_59 rfl rfl ?_
        refine w_iadd dX12_rankedSame_63 ?_
        refine w_istore (lo' := [some (.ref v0), some (.int v1), some (.int v2), some (.int v3), some (.int v4), some (.int (v5 + (1 : Int32))), some (.int v6)]) dX12_rankedSame_64 (ltQ rfl) rfl ?_
        refine w_iinc (lo' := [some (.ref v0), some (.int v1), some (.int v2), some (.int v3), some (.int v4), some (.int (v5 + (1 : Int32))), some (.int (v6 + (1 : Int32)))]) dX12_rankedSame_66 rfl i1_1 rfl ?_
        refine w_goto (pc' := 25) dX12_rankedSame_69 rfl rfl ?_
        exact k
