/-! ===== segments: what the program does from a place to the next ===== -/
theorem bX12_acknowledged_0 {d : Nat} {h : HP} {Q : Out → HP → Prop} {v0 : Nat} {v1 : Int32} {v2 : UInt32} {u3 : Option Value} {u4 : Option Value} (k : (hK h v0 = 12) ∧ ((hK h (hR h 1211 v0) = 20) ∧ ((inA h (hR h 1211 v0) v1 = true) ∧ (((¬ (hAI h (hR h 1211 v0) (v1).toNatClampNeg) = (2 : Int32)) → Q (.inl none) h) ∧ ((¬ (¬ (hAI h (hR h 1211 v0) (v1).toNatClampNeg) = (2 : Int32))) → (hK h (hR h 1249 v0) = 20) ∧ ((inA h (hR h 1249 v0) (3 : Int32) = true) ∧ ((hK h (hR h 1209 v0) = 20) ∧ ((inA h (hR h 1209 v0) v1 = true) ∧ ((((hAI h (hR h 1249 v0) ((3 : Int32)).toNatClampNeg) = (hAI h (hR h 1209 v0) (v1).toNatClampNeg)) → (inA h (hR h 1249 v0) (1 : Int32) = true) ∧ ((inA h (hR h 1249 v0) (7 : Int32) = true) ∧ (((¬ (hAI h (hR h 1249 v0) ((7 : Int32)).toNatClampNeg) = 0) → (inA h (hR h 1249 v0) (4 : Int32) = true) ∧ ((hK h (hR h 1220 v0) = 20) ∧ ((inA h (hR h 1220 v0) (((5 : Int32) * v1) + (hAI h (hR h 1249 v0) ((1 : Int32)).toNatClampNeg)) = true) ∧ ((((hAI h (hR h 1249 v0) ((4 : Int32)).toNatClampNeg) ≤ (hAI h (hR h 1220 v0) ((((5 : Int32) * v1) + (hAI h (hR h 1249 v0) ((1 : Int32)).toNatClampNeg))).toNatClampNeg)) → (1 < v0) ∧ (WP d mX12_most 0 [some (.ref v0)] [] h (KK d mX12_acknowledged mX12_most 102 [some (.ref v0), some (.int v1), some (.float v2), some (.int (((5 : Int32) * v1) + (hAI h (hR h 1249 v0) ((1 : Int32)).toNatClampNeg))), u4] [.int v1, .ref v0] Q))) ∧ ((¬ ((hAI h (hR h 1249 v0) ((4 : Int32)).toNatClampNeg) ≤ (hAI h (hR h 1220 v0) ((((5 : Int32) * v1) + (hAI h (hR h 1249 v0) ((1 : Int32)).toNatClampNeg))).toNatClampNeg))) → WP (d + 1) mX12_acknowledged 98 [some (.ref v0), some (.int v1), some (.float v2), some (.int (((5 : Int32) * v1) + (hAI h (hR h 1249 v0) ((1 : Int32)).toNatClampNeg))), u4] [.int (hAI (sAI h (hR h 1220 v0) ((((5 : Int32) * v1) + (hAI h (hR h 1249 v0) ((1 : Int32)).toNatClampNeg))).toNatClampNeg (hAI h (hR h 1249 v0) ((4 : Int32)).toNatClampNeg)) (hR h 1249 v0) ((4 : Int32)).toNatClampNeg), .int (((5 : Int32) * v1) + (hAI h (hR h 1249 v0) ((1 : Int32)).toNatClampNeg)), .ref (hR h 1219 v0)] (sAI h (hR h 1220 v0) ((((5 : Int32) * v1) + (hAI h (hR h 1249 v0) ((1 : Int32)).toNatClampNeg))).toNatClampNeg (hAI h (hR h 1249 v0) ((4 : Int32)).toNatClampNeg)) Q))))) ∧ ((¬ (¬ (hAI h (hR h 1249 v0) ((7 : Int32)).toNatClampNeg) = 0)) → (inA h (hR h 1249 v0) (4 : Int32) = true) ∧ ((hK h (hR h 1219 v0) = 20) ∧ ((inA h (hR h 1219 v0) (((5 : Int32) * v1) + (hAI h (hR h 1249 v0) ((1 : Int32)).toNatClampNeg)) = true) ∧ (Q (.inl none) (sAI h (hR h 1219 v0) ((((5 : Int32) * v1) + (hAI h (hR h 1249 v0) ((1 : Int32)).toNatClampNeg))).toNatClampNeg (hAI h (hR h 1249 v0) ((4 : Int32)).toNatClampNeg))))))))) ∧ ((¬ ((hAI h (hR h 1249 v0) ((3 : Int32)).toNatClampNeg) = (hAI h (hR h 1209 v0) (v1).toNatClampNeg))) → Q (.inl none) h)))))))))) : WP (d + 1) mX12_acknowledged 0 [some (.ref v0), some (.int v1), some (.float v2), u3, u4] [] h Q := by
  refine w_aload_n dX12_acknowledged_0 rfl ?_
  obtain ⟨g1, k⟩ := k
  refine w_getR dX12_acknowledged_1 f_12_39 t_12_11 g1 ?_
  refine w_iload_n dX12_acknowledged_4 rfl ?_
  obtain ⟨g2, k⟩ := k
  obtain ⟨g3, k⟩ := k
  refine w_iaload dX12_acknowledged_5 g2 g3 ?_
  refine w_iconst dX12_acknowledged_6 i1_2 ?_
  refine w_ic_ne (pc' := 25) dX12_acknowledged_7 rfl rfl ⟨fun c => ?_, fun c => ?_⟩
  · replace k := k.1 c
    exact w_return dX12_acknowledged_25 rfl k
  · replace k := k.2 c
    refine w_aload_n dX12_acknowledged_10 rfl ?_
    refine w_getR dX12_acknowledged_11 f_12_144 t_12_49 g1 ?_
    refine w_iconst dX12_acknowledged_14 i1_3 ?_
    obtain ⟨g4, k⟩ := k
    obtain ⟨g5, k⟩ := k
    refine w_iaload dX12_acknowledged_15 g4 g5 ?_
    refine w_aload_n dX12_acknowledged_16 rfl ?_
    refine w_getR dX12_acknowledged_17 f_12_32 t_12_9 g1 ?_
    refine w_iload_n dX12_acknowledged_20 rfl ?_
    obtain ⟨g6, k⟩ := k
    obtain ⟨g7, k⟩ := k
    refine w_iaload dX12_acknowledged_21 g6 g7 ?_
    refine w_ic_eq (pc' := 26) dX12_acknowledged_22 rfl rfl ⟨fun c => ?_, fun c => ?_⟩
    · replace k := k.1 c
      refine w_iconst dX12_acknowledged_26 i1_5 ?_
      refine w_iload_n dX12_acknowledged_27 rfl ?_
      refine w_imul dX12_acknowledged_28 ?_
      refine w_aload_n dX12_acknowledged_29 rfl ?_
      refine w_getR dX12_acknowledged_30 f_12_144 t_12_49 g1 ?_
      refine w_iconst dX12_acknowledged_33 i1_1 ?_
      obtain ⟨g8, k⟩ := k
      refine w_iaload dX12_acknowledged_34 g4 g8 ?_
      refine w_iadd dX12_acknowledged_35 ?_
      refine w_istore_n (lo' := [some (.ref v0), some (.int v1), some (.float v2), some (.int (((5 : Int32) * v1) + (hAI h (hR h 1249 v0) ((1 : Int32)).toNatClampNeg))), u4]) dX12_acknowledged_36 (ltQ rfl) rfl ?_
      refine w_aload_n dX12_acknowledged_37 rfl ?_
      refine w_getR dX12_acknowledged_38 f_12_144 t_12_49 g1 ?_
      refine w_bipush dX12_acknowledged_41 i2_7 ?_
      obtain ⟨g9, k⟩ := k
      refine w_iaload dX12_acknowledged_43 g4 g9 ?_
      refine w_if_ne (pc' := 60) dX12_acknowledged_44 rfl rfl ⟨fun c => ?_, fun c => ?_⟩
      · replace k := k.1 c
        refine w_aload_n dX12_acknowledged_60 rfl ?_
        refine w_getR dX12_acknowledged_61 f_12_144 t_12_49 g1 ?_
        refine w_iconst dX12_acknowledged_64 i1_4 ?_
        obtain ⟨g10, k⟩ := k
        refine w_iaload dX12_acknowledged_65 g4 g10 ?_
        refine w_aload_n dX12_acknowledged_66 rfl ?_
        refine w_getR dX12_acknowledged_67 f_12_66 t_12_20 g1 ?_
        refine w_iload_n dX12_acknowledged_70 rfl ?_
        obtain ⟨g11, k⟩ := k
        obtain ⟨g12, k⟩ := k
        refine w_iaload dX12_acknowledged_71 g11 g12 ?_
        refine w_ic_le (pc' := 99) dX12_acknowledged_72 rfl rfl ⟨fun c => ?_, fun c => ?_⟩
        · replace k := k.1 c
          refine w_aload_n dX12_acknowledged_99 rfl ?_
          refine w_iload_n dX12_acknowledged_100 rfl ?_
          refine w_aload_n dX12_acknowledged_101 rfl ?_
          obtain ⟨g13, k⟩ := k
          exact w_virt (as1 := [.ref v0]) (as2 := [.ref v0]) (rest := [.int v1, .ref v0]) (lo2 := [some (.ref v0)]) dX12_acknowledged_102 c_12_241 rfl rfl rfl (Nat.le_of_ble_eq_true rfl) (Nat.le_of_ble_eq_true rfl) rfl (Nat.le_of_ble_eq_true rfl) rfl rfl g13 g1 k
        · replace k := k.2 c
          refine w_aload_n dX12_acknowledged_75 rfl ?_
          refine w_getR dX12_acknowledged_76 f_12_66 t_12_20 g1 ?_
          refine w_iload_n dX12_acknowledged_79 rfl ?_
          refine w_aload_n dX12_acknowledged_80 rfl ?_
          refine w_getR dX12_acknowledged_81 f_12_144 t_12_49 g1 ?_
          refine w_iconst dX12_acknowledged_84 i1_4 ?_
          refine w_iaload dX12_acknowledged_85 g4 g10 ?_
          refine w_iastore dX12_acknowledged_86 g11 g12 ?_
          refine w_aload_n dX12_acknowledged_87 rfl ?_
          refine w_getR dX12_acknowledged_88 f_12_63 t_12_19 g1 ?_
          refine w_iload_n dX12_acknowledged_91 rfl ?_
          refine w_aload_n dX12_acknowledged_92 rfl ?_
          refine w_getR dX12_acknowledged_93 f_12_144 t_12_49 g1 ?_
          refine w_iconst dX12_acknowledged_96 i1_4 ?_
          refine w_iaload dX12_acknowledged_97 g4 g10 ?_
          exact k
      · replace k := k.2 c
        refine w_aload_n dX12_acknowledged_47 rfl ?_
        refine w_getR dX12_acknowledged_48 f_12_63 t_12_19 g1 ?_
        refine w_iload_n dX12_acknowledged_51 rfl ?_
        refine w_aload_n dX12_acknowledged_52 rfl ?_
        refine w_getR dX12_acknowledged_53 f_12_144 t_12_49 g1 ?_
        refine w_iconst dX12_acknowledged_56 i1_4 ?_
        obtain ⟨g14, k⟩ := k
        refine w_iaload dX12_acknowledged_57 g4 g14 ?_
        obtain ⟨g15, k⟩ := k
        obtain ⟨g16, k⟩ := k
        refine w_iastore dX12_acknowledged_58 g15 g16 ?_
        exact w_return dX12_acknowledged_59 rfl k
    · replace k := k.2 c
      exact w_return dX12_acknowledged_25 rfl k
theorem bX12_acknowledged_98 {d : Nat} {h : HP} {Q : Out → HP → Prop} {v0 : Nat} {v1 : Int32} {v2 : UInt32} {v3 : Int32} {u4 : Option Value} {s0 : Int32} {s1 : Int32} {s2 : Nat} (k : (hK h s2 = 20) ∧ ((inA h s2 s1 = true) ∧ ((1 < v0) ∧ ((hK h v0 = 12) ∧ (WP d mX12_most 0 [some (.ref v0)] [] (sAI h s2 (s1).toNatClampNeg s0) (KK d mX12_acknowledged mX12_most 102 [some (.ref v0), some (.int v1), some (.float v2), some (.int v3), u4] [.int v1, .ref v0] Q)))))) : WP (d + 1) mX12_acknowledged 98 [some (.ref v0), some (.int v1), some (.float v2), some (.int v3), u4] [.int s0, .int s1, .ref s2] h Q := by
  obtain ⟨g1, k⟩ := k
  obtain ⟨g2, k⟩ := k
  refine w_iastore dX12_acknowledged_98 g1 g2 ?_
  refine w_aload_n dX12_acknowledged_99 rfl ?_
  refine w_iload_n dX12_acknowledged_100 rfl ?_
  refine w_aload_n dX12_acknowledged_101 rfl ?_
  obtain ⟨g3, k⟩ := k
  obtain ⟨g4, k⟩ := k
  exact w_virt (as1 := [.ref v0]) (as2 := [.ref v0]) (rest := [.int v1, .ref v0]) (lo2 := [some (.ref v0)]) dX12_acknowledged_102 c_12_241 rfl rfl rfl (Nat.le_of_ble_eq_true rfl) (Nat.le_of_ble_eq_true rfl) rfl (Nat.le_of_ble_eq_true rfl) rfl rfl g3 g4 k
theorem bX12_acknowledged_105 {d : Nat} {h : HP} {Q : Out → HP → Prop} {v0 : Nat} {v1 : Int32} {v2 : UInt32} {v3 : Int32} {u4 : Option Value} {s0 : Int32} {s1 : Int32} {s2 : Nat} (k : (1 < s2) ∧ ((hK h s2 = 12) ∧ (WP d mX12_rankedSame 0 [some (.ref s2), some (.int s1), some (.int (s0 - (1 : Int32))), none, none, none, none] [] h (KK d mX12_acknowledged mX12_rankedSame 107 [some (.ref v0), some (.int v1), some (.float v2), some (.int v3), u4] [] Q)))) : WP (d + 1) mX12_acknowledged 105 [some (.ref v0), some (.int v1), some (.float v2), some (.int v3), u4] [.int s0, .int s1, .ref s2] h Q := by
  refine w_iconst dX12_acknowledged_105 i1_1 ?_
  refine w_isub dX12_acknowledged_106 ?_
  obtain ⟨g1, k⟩ := k
  obtain ⟨g2, k⟩ := k
  exact w_virt (as1 := [.int (s0 - (1 : Int32)), .int s1, .ref s2]) (as2 := [.ref s2, .int s1, .int (s0 - (1 : Int32))]) (rest := []) (lo2 := [some (.ref s2), some (.int s1), some (.int (s0 - (1 : Int32))), none, none, none, none]) dX12_acknowledged_107 c_12_249 rfl rfl rfl (Nat.le_of_ble_eq_true rfl) (Nat.le_of_ble_eq_true rfl) rfl (Nat.le_of_ble_eq_true rfl) rfl rfl g1 g2 k
theorem bX12_acknowledged_110 {d : Nat} {h : HP} {Q : Out → HP → Prop} {v0 : Nat} {v1 : Int32} {v2 : UInt32} {v3 : Int32} {u4 : Option Value} {s0 : Int32} (k : (hK h v0 = 12) ∧ ((hK h (hR h 1213 v0) = 20) ∧ ((inA h (hR h 1213 v0) v1 = true) ∧ (((s0 ≤ (hAI h (hR h 1213 v0) (v1).toNatClampNeg)) → (hK h (hR h 1221 v0) = 21) ∧ ((inA h (hR h 1221 v0) v3 = true) ∧ ((((hAI h (hR h 1221 v0) (v3).toNatClampNeg) = 0) → (hK h (hR h 1222 v0) = 22) ∧ ((inA h (hR h 1222 v0) v3 = true) ∧ ((1 < v0) ∧ (WP d mX12_leases 0 [some (.ref v0), some (.int v1), none, none, none, none, none] [] (sAI (sAF h (hR h 1222 v0) (v3).toNatClampNeg v2) (hR h 1221 v0) (v3).toNatClampNeg (1 : Int32)) (KK d mX12_acknowledged mX12_leases 192 [some (.ref v0), some (.int v1), some (.float v2), some (.int v3), some (.int s0)] [] Q))))) ∧ ((¬ ((hAI h (hR h 1221 v0) (v3).toNatClampNeg) = 0)) → (hK h (hR h 1222 v0) = 22) ∧ ((inA h (hR h 1222 v0) v3 = true) ∧ ((((Op.cmpValue (FP.fcmp (hAF h (hR h 1222 v0) (v3).toNatClampNeg) v2) .l) ≤ 0) → (1 < v0) ∧ (WP d mX12_leases 0 [some (.ref v0), some (.int v1), none, none, none, none, none] [] (sAI (sAF h (hR h 1222 v0) (v3).toNatClampNeg v2) (hR h 1221 v0) (v3).toNatClampNeg (1 : Int32)) (KK d mX12_acknowledged mX12_leases 192 [some (.ref v0), some (.int v1), some (.float v2), some (.int v3), some (.int s0)] [] Q))) ∧ ((¬ ((Op.cmpValue (FP.fcmp (hAF h (hR h 1222 v0) (v3).toNatClampNeg) v2) .l) ≤ 0)) → (1 < v0) ∧ (WP d mX12_leases 0 [some (.ref v0), some (.int v1), none, none, none, none, none] [] (sAI (sAF h (hR h 1222 v0) (v3).toNatClampNeg (hAF h (hR h 1222 v0) (v3).toNatClampNeg)) (hR h 1221 v0) (v3).toNatClampNeg (1 : Int32)) (KK d mX12_acknowledged mX12_leases 192 [some (.ref v0), some (.int v1), some (.float v2), some (.int v3), some (.int s0)] [] Q))))))))) ∧ ((¬ (s0 ≤ (hAI h (hR h 1213 v0) (v1).toNatClampNeg))) → (1 < v0) ∧ (WP d mX12_termAt 0 [some (.ref v0), some (.int v1), some (.int s0)] [] h (KK d mX12_acknowledged mX12_termAt 127 [some (.ref v0), some (.int v1), some (.float v2), some (.int v3), some (.int s0)] [] Q))))))) : WP (d + 1) mX12_acknowledged 110 [some (.ref v0), some (.int v1), some (.float v2), some (.int v3), u4] [.int s0] h Q := by
  refine w_istore (lo' := [some (.ref v0), some (.int v1), some (.float v2), some (.int v3), some (.int s0)]) dX12_acknowledged_110 (ltQ rfl) rfl ?_
  refine w_iload dX12_acknowledged_112 rfl ?_
  refine w_aload_n dX12_acknowledged_114 rfl ?_
  obtain ⟨g1, k⟩ := k
  refine w_getR dX12_acknowledged_115 f_12_45 t_12_13 g1 ?_
  refine w_iload_n dX12_acknowledged_118 rfl ?_
  obtain ⟨g2, k⟩ := k
  obtain ⟨g3, k⟩ := k
  refine w_iaload dX12_acknowledged_119 g2 g3 ?_
  refine w_ic_le (pc' := 147) dX12_acknowledged_120 rfl rfl ⟨fun c => ?_, fun c => ?_⟩
  · replace k := k.1 c
    refine w_aload_n dX12_acknowledged_147 rfl ?_
    refine w_getR dX12_acknowledged_148 f_12_72 t_12_22 g1 ?_
    refine w_iload_n dX12_acknowledged_151 rfl ?_
    refine w_aload_n dX12_acknowledged_152 rfl ?_
    refine w_getR dX12_acknowledged_153 f_12_69 t_12_21 g1 ?_
    refine w_iload_n dX12_acknowledged_156 rfl ?_
    obtain ⟨g4, k⟩ := k
    obtain ⟨g5, k⟩ := k
    refine w_baload dX12_acknowledged_157 g4 g5 ?_
    refine w_if_eq (pc' := 181) dX12_acknowledged_158 rfl rfl ⟨fun c => ?_, fun c => ?_⟩
    · replace k := k.1 c
      refine w_fload_n dX12_acknowledged_181 rfl ?_
      obtain ⟨g6, k⟩ := k
      obtain ⟨g7, k⟩ := k
      refine w_fastore dX12_acknowledged_182 g6 g7 ?_
      refine w_aload_n dX12_acknowledged_183 rfl ?_
      refine w_getR dX12_acknowledged_184 f_12_69 t_12_21 g1 ?_
      refine w_iload_n dX12_acknowledged_187 rfl ?_
      refine w_iconst dX12_acknowledged_188 i1_1 ?_
      refine w_bastore dX12_acknowledged_189 g4 g5 rfl ?_
      refine w_aload_n dX12_acknowledged_190 rfl ?_
      refine w_iload_n dX12_acknowledged_191 rfl ?_
      obtain ⟨g8, k⟩ := k
      exact w_virt (as1 := [.int v1, .ref v0]) (as2 := [.ref v0, .int v1]) (rest := []) (lo2 := [some (.ref v0), some (.int v1), none, none, none, none, none]) dX12_acknowledged_192 c_12_252 rfl rfl rfl (Nat.le_of_ble_eq_true rfl) (Nat.le_of_ble_eq_true rfl) rfl (Nat.le_of_ble_eq_true rfl) rfl rfl g8 g1 k
    · replace k := k.2 c
      refine w_aload_n dX12_acknowledged_161 rfl ?_
      refine w_getR dX12_acknowledged_162 f_12_72 t_12_22 g1 ?_
      refine w_iload_n dX12_acknowledged_165 rfl ?_
      obtain ⟨g9, k⟩ := k
      obtain ⟨g10, k⟩ := k
      refine w_faload dX12_acknowledged_166 g9 g10 ?_
      refine w_fload_n dX12_acknowledged_167 rfl ?_
      refine w_fcmp dX12_acknowledged_168 ?_
      refine w_if_le (pc' := 181) dX12_acknowledged_169 rfl rfl ⟨fun c => ?_, fun c => ?_⟩
      · replace k := k.1 c
        refine w_fload_n dX12_acknowledged_181 rfl ?_
        refine w_fastore dX12_acknowledged_182 g9 g10 ?_
        refine w_aload_n dX12_acknowledged_183 rfl ?_
        refine w_getR dX12_acknowledged_184 f_12_69 t_12_21 g1 ?_
        refine w_iload_n dX12_acknowledged_187 rfl ?_
        refine w_iconst dX12_acknowledged_188 i1_1 ?_
        refine w_bastore dX12_acknowledged_189 g4 g5 rfl ?_
        refine w_aload_n dX12_acknowledged_190 rfl ?_
        refine w_iload_n dX12_acknowledged_191 rfl ?_
        obtain ⟨g11, k⟩ := k
        exact w_virt (as1 := [.int v1, .ref v0]) (as2 := [.ref v0, .int v1]) (rest := []) (lo2 := [some (.ref v0), some (.int v1), none, none, none, none, none]) dX12_acknowledged_192 c_12_252 rfl rfl rfl (Nat.le_of_ble_eq_true rfl) (Nat.le_of_ble_eq_true rfl) rfl (Nat.le_of_ble_eq_true rfl) rfl rfl g11 g1 k
      · replace k := k.2 c
        refine w_aload_n dX12_acknowledged_172 rfl ?_
        refine w_getR dX12_acknowledged_173 f_12_72 t_12_22 g1 ?_
        refine w_iload_n dX12_acknowledged_176 rfl ?_
        refine w_faload dX12_acknowledged_177 g9 g10 ?_
        refine w_goto (pc' := 182) dX12_acknowledged_178 rfl rfl ?_
        refine w_fastore dX12_acknowledged_182 g9 g10 ?_
        refine w_aload_n dX12_acknowledged_183 rfl ?_
        refine w_getR dX12_acknowledged_184 f_12_69 t_12_21 g1 ?_
        refine w_iload_n dX12_acknowledged_187 rfl ?_
        refine w_iconst dX12_acknowledged_188 i1_1 ?_
        refine w_bastore dX12_acknowledged_189 g4 g5 rfl ?_
        refine w_aload_n dX12_acknowledged_190 rfl ?_
        refine w_iload_n dX12_acknowledged_191 rfl ?_
        obtain ⟨g12, k⟩ := k
        exact w_virt (as1 := [.int v1, .ref v0]) (as2 := [.ref v0, .int v1]) (rest := []) (lo2 := [some (.ref v0), some (.int v1), none, none, none, none, none]) dX12_acknowledged_192 c_12_252 rfl rfl rfl (Nat.le_of_ble_eq_true rfl) (Nat.le_of_ble_eq_true rfl) rfl (Nat.le_of_ble_eq_true rfl) rfl rfl g12 g1 k
  · replace k := k.2 c
    refine w_aload_n dX12_acknowledged_123 rfl ?_
    refine w_iload_n dX12_acknowledged_124 rfl ?_
    refine w_iload dX12_acknowledged_125 rfl ?_
    obtain ⟨g13, k⟩ := k
    exact w_virt (as1 := [.int s0, .int v1, .ref v0]) (as2 := [.ref v0, .int v1, .int s0]) (rest := []) (lo2 := [some (.ref v0), some (.int v1), some (.int s0)]) dX12_acknowledged_127 c_12_233 rfl rfl rfl (Nat.le_of_ble_eq_true rfl) (Nat.le_of_ble_eq_true rfl) rfl (Nat.le_of_ble_eq_true rfl) rfl rfl g13 g1 k
theorem bX12_acknowledged_130 {d : Nat} {h : HP} {Q : Out → HP → Prop} {v0 : Nat} {v1 : Int32} {v2 : UInt32} {v3 : Int32} {v4 : Int32} {s0 : Int32} (k : (hK h v0 = 12) ∧ ((hK h (hR h 1209 v0) = 20) ∧ ((inA h (hR h 1209 v0) v1 = true) ∧ (((¬ s0 = (hAI h (hR h 1209 v0) (v1).toNatClampNeg)) → (hK h (hR h 1221 v0) = 21) ∧ ((inA h (hR h 1221 v0) v3 = true) ∧ ((((hAI h (hR h 1221 v0) (v3).toNatClampNeg) = 0) → (hK h (hR h 1222 v0) = 22) ∧ ((inA h (hR h 1222 v0) v3 = true) ∧ ((1 < v0) ∧ (WP d mX12_leases 0 [some (.ref v0), some (.int v1), none, none, none, none, none] [] (sAI (sAF h (hR h 1222 v0) (v3).toNatClampNeg v2) (hR h 1221 v0) (v3).toNatClampNeg (1 : Int32)) (KK d mX12_acknowledged mX12_leases 192 [some (.ref v0), some (.int v1), some (.float v2), some (.int v3), some (.int v4)] [] Q))))) ∧ ((¬ ((hAI h (hR h 1221 v0) (v3).toNatClampNeg) = 0)) → (hK h (hR h 1222 v0) = 22) ∧ ((inA h (hR h 1222 v0) v3 = true) ∧ ((((Op.cmpValue (FP.fcmp (hAF h (hR h 1222 v0) (v3).toNatClampNeg) v2) .l) ≤ 0) → (1 < v0) ∧ (WP d mX12_leases 0 [some (.ref v0), some (.int v1), none, none, none, none, none] [] (sAI (sAF h (hR h 1222 v0) (v3).toNatClampNeg v2) (hR h 1221 v0) (v3).toNatClampNeg (1 : Int32)) (KK d mX12_acknowledged mX12_leases 192 [some (.ref v0), some (.int v1), some (.float v2), some (.int v3), some (.int v4)] [] Q))) ∧ ((¬ ((Op.cmpValue (FP.fcmp (hAF h (hR h 1222 v0) (v3).toNatClampNeg) v2) .l) ≤ 0)) → (1 < v0) ∧ (WP d mX12_leases 0 [some (.ref v0), some (.int v1), none, none, none, none, none] [] (sAI (sAF h (hR h 1222 v0) (v3).toNatClampNeg (hAF h (hR h 1222 v0) (v3).toNatClampNeg)) (hR h 1221 v0) (v3).toNatClampNeg (1 : Int32)) (KK d mX12_acknowledged mX12_leases 192 [some (.ref v0), some (.int v1), some (.float v2), some (.int v3), some (.int v4)] [] Q))))))))) ∧ ((¬ (¬ s0 = (hAI h (hR h 1209 v0) (v1).toNatClampNeg))) → (hK h (hR h 1213 v0) = 20) ∧ ((inA h (hR h 1213 v0) v1 = true) ∧ ((hK h (hR h 1221 v0) = 21) ∧ ((inA h (hR h 1221 v0) v3 = true) ∧ ((((hAI (sAI h (hR h 1213 v0) (v1).toNatClampNeg v4) (hR h 1221 v0) (v3).toNatClampNeg) = 0) → (hK h (hR h 1222 v0) = 22) ∧ ((inA h (hR h 1222 v0) v3 = true) ∧ ((1 < v0) ∧ (WP d mX12_leases 0 [some (.ref v0), some (.int v1), none, none, none, none, none] [] (sAI (sAF (sAI h (hR h 1213 v0) (v1).toNatClampNeg v4) (hR h 1222 v0) (v3).toNatClampNeg v2) (hR h 1221 v0) (v3).toNatClampNeg (1 : Int32)) (KK d mX12_acknowledged mX12_leases 192 [some (.ref v0), some (.int v1), some (.float v2), some (.int v3), some (.int v4)] [] Q))))) ∧ ((¬ ((hAI (sAI h (hR h 1213 v0) (v1).toNatClampNeg v4) (hR h 1221 v0) (v3).toNatClampNeg) = 0)) → (hK h (hR h 1222 v0) = 22) ∧ ((inA h (hR h 1222 v0) v3 = true) ∧ ((((Op.cmpValue (FP.fcmp (hAF h (hR h 1222 v0) (v3).toNatClampNeg) v2) .l) ≤ 0) → (1 < v0) ∧ (WP d mX12_leases 0 [some (.ref v0), some (.int v1), none, none, none, none, none] [] (sAI (sAF (sAI h (hR h 1213 v0) (v1).toNatClampNeg v4) (hR h 1222 v0) (v3).toNatClampNeg v2) (hR h 1221 v0) (v3).toNatClampNeg (1 : Int32)) (KK d mX12_acknowledged mX12_leases 192 [some (.ref v0), some (.int v1), some (.float v2), some (.int v3), some (.int v4)] [] Q))) ∧ ((¬ ((Op.cmpValue (FP.fcmp (hAF h (hR h 1222 v0) (v3).toNatClampNeg) v2) .l) ≤ 0)) → (1 < v0) ∧ (WP d mX12_leases 0 [some (.ref v0), some (.int v1), none, none, none, none, none] [] (sAI (sAF (sAI h (hR h 1213 v0) (v1).toNatClampNeg v4) (hR h 1222 v0) (v3).toNatClampNeg (hAF h (hR h 1222 v0) (v3).toNatClampNeg)) (hR h 1221 v0) (v3).toNatClampNeg (1 : Int32)) (KK d mX12_acknowledged mX12_leases 192 [some (.ref v0), some (.int v1), some (.float v2), some (.int v3), some (.int v4)] [] Q))))))))))))))) : WP (d + 1) mX12_acknowledged 130 [some (.ref v0), some (.int v1), some (.float v2), some (.int v3), some (.int v4)] [.int s0] h Q := by
  refine w_aload_n dX12_acknowledged_130 rfl ?_
  obtain ⟨g1, k⟩ := k
  refine w_getR dX12_acknowledged_131 f_12_32 t_12_9 g1 ?_
  refine w_iload_n dX12_acknowledged_134 rfl ?_
  obtain ⟨g2, k⟩ := k
  obtain ⟨g3, k⟩ := k
  refine w_iaload dX12_acknowledged_135 g2 g3 ?_
  refine w_ic_ne (pc' := 147) dX12_acknowledged_136 rfl rfl ⟨fun c => ?_, fun c => ?_⟩
  · replace k := k.1 c
    refine w_aload_n dX12_acknowledged_147 rfl ?_
    refine w_getR dX12_acknowledged_148 f_12_72 t_12_22 g1 ?_
    refine w_iload_n dX12_acknowledged_151 rfl ?_
    refine w_aload_n dX12_acknowledged_152 rfl ?_
    refine w_getR dX12_acknowledged_153 f_12_69 t_12_21 g1 ?_
    refine w_iload_n dX12_acknowledged_156 rfl ?_
    obtain ⟨g4, k⟩ := k
    obtain ⟨g5, k⟩ := k
    refine w_baload dX12_acknowledged_157 g4 g5 ?_
    refine w_if_eq (pc' := 181) dX12_acknowledged_158 rfl rfl ⟨fun c => ?_, fun c => ?_⟩
    · replace k := k.1 c
      refine w_fload_n dX12_acknowledged_181 rfl ?_
      obtain ⟨g6, k⟩ := k
      obtain ⟨g7, k⟩ := k
      refine w_fastore dX12_acknowledged_182 g6 g7 ?_
      refine w_aload_n dX12_acknowledged_183 rfl ?_
      refine w_getR dX12_acknowledged_184 f_12_69 t_12_21 g1 ?_
      refine w_iload_n dX12_acknowledged_187 rfl ?_
      refine w_iconst dX12_acknowledged_188 i1_1 ?_
      refine w_bastore dX12_acknowledged_189 g4 g5 rfl ?_
      refine w_aload_n dX12_acknowledged_190 rfl ?_
      refine w_iload_n dX12_acknowledged_191 rfl ?_
      obtain ⟨g8, k⟩ := k
      exact w_virt (as1 := [.int v1, .ref v0]) (as2 := [.ref v0, .int v1]) (rest := []) (lo2 := [some (.ref v0), some (.int v1), none, none, none, none, none]) dX12_acknowledged_192 c_12_252 rfl rfl rfl (Nat.le_of_ble_eq_true rfl) (Nat.le_of_ble_eq_true rfl) rfl (Nat.le_of_ble_eq_true rfl) rfl rfl g8 g1 k
    · replace k := k.2 c
      refine w_aload_n dX12_acknowledged_161 rfl ?_
      refine w_getR dX12_acknowledged_162 f_12_72 t_12_22 g1 ?_
      refine w_iload_n dX12_acknowledged_165 rfl ?_
      obtain ⟨g9, k⟩ := k
      obtain ⟨g10, k⟩ := k
      refine w_faload dX12_acknowledged_166 g9 g10 ?_
      refine w_fload_n dX12_acknowledged_167 rfl ?_
      refine w_fcmp dX12_acknowledged_168 ?_
      refine w_if_le (pc' := 181) dX12_acknowledged_169 rfl rfl ⟨fun c => ?_, fun c => ?_⟩
      · replace k := k.1 c
        refine w_fload_n dX12_acknowledged_181 rfl ?_
        refine w_fastore dX12_acknowledged_182 g9 g10 ?_
        refine w_aload_n dX12_acknowledged_183 rfl ?_
        refine w_getR dX12_acknowledged_184 f_12_69 t_12_21 g1 ?_
        refine w_iload_n dX12_acknowledged_187 rfl ?_
        refine w_iconst dX12_acknowledged_188 i1_1 ?_
        refine w_bastore dX12_acknowledged_189 g4 g5 rfl ?_
        refine w_aload_n dX12_acknowledged_190 rfl ?_
        refine w_iload_n dX12_acknowledged_191 rfl ?_
        obtain ⟨g11, k⟩ := k
        exact w_virt (as1 := [.int v1, .ref v0]) (as2 := [.ref v0, .int v1]) (rest := []) (lo2 := [some (.ref v0), some (.int v1), none, none, none, none, none]) dX12_acknowledged_192 c_12_252 rfl rfl rfl (Nat.le_of_ble_eq_true rfl) (Nat.le_of_ble_eq_true rfl) rfl (Nat.le_of_ble_eq_true rfl) rfl rfl g11 g1 k
      · replace k := k.2 c
        refine w_aload_n dX12_acknowledged_172 rfl ?_
        refine w_getR dX12_acknowledged_173 f_12_72 t_12_22 g1 ?_
        refine w_iload_n dX12_acknowledged_176 rfl ?_
        refine w_faload dX12_acknowledged_177 g9 g10 ?_
        refine w_goto (pc' := 182) dX12_acknowledged_178 rfl rfl ?_
        refine w_fastore dX12_acknowledged_182 g9 g10 ?_
        refine w_aload_n dX12_acknowledged_183 rfl ?_
        refine w_getR dX12_acknowledged_184 f_12_69 t_12_21 g1 ?_
        refine w_iload_n dX12_acknowledged_187 rfl ?_
        refine w_iconst dX12_acknowledged_188 i1_1 ?_
        refine w_bastore dX12_acknowledged_189 g4 g5 rfl ?_
        refine w_aload_n dX12_acknowledged_190 rfl ?_
        refine w_iload_n dX12_acknowledged_191 rfl ?_
        obtain ⟨g12, k⟩ := k
        exact w_virt (as1 := [.int v1, .ref v0]) (as2 := [.ref v0, .int v1]) (rest := []) (lo2 := [some (.ref v0), some (.int v1), none, none, none, none, none]) dX12_acknowledged_192 c_12_252 rfl rfl rfl (Nat.le_of_ble_eq_true rfl) (Nat.le_of_ble_eq_true rfl) rfl (Nat.le_of_ble_eq_true rfl) rfl rfl g12 g1 k
  · replace k := k.2 c
    refine w_aload_n dX12_acknowledged_139 rfl ?_
    refine w_getR dX12_acknowledged_140 f_12_45 t_12_13 g1 ?_
    refine w_iload_n dX12_acknowledged_143 rfl ?_
    refine w_iload dX12_acknowledged_144 rfl ?_
    obtain ⟨g13, k⟩ := k
    obtain ⟨g14, k⟩ := k
    refine w_iastore dX12_acknowledged_146 g13 g14 ?_
    refine w_aload_n dX12_acknowledged_147 rfl ?_
    refine w_getR dX12_acknowledged_148 f_12_72 t_12_22 g1 ?_
    refine w_iload_n dX12_acknowledged_151 rfl ?_
    refine w_aload_n dX12_acknowledged_152 rfl ?_
    refine w_getR dX12_acknowledged_153 f_12_69 t_12_21 g1 ?_
    refine w_iload_n dX12_acknowledged_156 rfl ?_
    obtain ⟨g15, k⟩ := k
    obtain ⟨g16, k⟩ := k
    refine w_baload dX12_acknowledged_157 g15 g16 ?_
    refine w_if_eq (pc' := 181) dX12_acknowledged_158 rfl rfl ⟨fun c => ?_, fun c => ?_⟩
    · replace k := k.1 c
      refine w_fload_n dX12_acknowledged_181 rfl ?_
      obtain ⟨g17, k⟩ := k
      obtain ⟨g18, k⟩ := k
      refine w_fastore dX12_acknowledged_182 g17 g18 ?_
      refine w_aload_n dX12_acknowledged_183 rfl ?_
      refine w_getR dX12_acknowledged_184 f_12_69 t_12_21 g1 ?_
      refine w_iload_n dX12_acknowledged_187 rfl ?_
      refine w_iconst dX12_acknowledged_188 i1_1 ?_
      refine w_bastore dX12_acknowledged_189 g15 g16 rfl ?_
      refine w_aload_n dX12_acknowledged_190 rfl ?_
      refine w_iload_n dX12_acknowledged_191 rfl ?_
      obtain ⟨g19, k⟩ := k
      exact w_virt (as1 := [.int v1, .ref v0]) (as2 := [.ref v0, .int v1]) (rest := []) (lo2 := [some (.ref v0), some (.int v1), none, none, none, none, none]) dX12_acknowledged_192 c_12_252 rfl rfl rfl (Nat.le_of_ble_eq_true rfl) (Nat.le_of_ble_eq_true rfl) rfl (Nat.le_of_ble_eq_true rfl) rfl rfl g19 g1 k
    · replace k := k.2 c
      refine w_aload_n dX12_acknowledged_161 rfl ?_
      refine w_getR dX12_acknowledged_162 f_12_72 t_12_22 g1 ?_
      refine w_iload_n dX12_acknowledged_165 rfl ?_
      obtain ⟨g20, k⟩ := k
      obtain ⟨g21, k⟩ := k
      refine w_faload dX12_acknowledged_166 g20 g21 ?_
      refine w_fload_n dX12_acknowledged_167 rfl ?_
      refine w_fcmp dX12_acknowledged_168 ?_
      refine w_if_le (pc' := 181) dX12_acknowledged_169 rfl rfl ⟨fun c => ?_, fun c => ?_⟩
      · replace k := k.1 c
        refine w_fload_n dX12_acknowledged_181 rfl ?_
        refine w_fastore dX12_acknowledged_182 g20 g21 ?_
        refine w_aload_n dX12_acknowledged_183 rfl ?_
        refine w_getR dX12_acknowledged_184 f_12_69 t_12_21 g1 ?_
        refine w_iload_n dX12_acknowledged_187 rfl ?_
        refine w_iconst dX12_acknowledged_188 i1_1 ?_
        refine w_bastore dX12_acknowledged_189 g15 g16 rfl ?_
        refine w_aload_n dX12_acknowledged_190 rfl ?_
        refine w_iload_n dX12_acknowledged_191 rfl ?_
        obtain ⟨g22, k⟩ := k
        exact w_virt (as1 := [.int v1, .ref v0]) (as2 := [.ref v0, .int v1]) (rest := []) (lo2 := [some (.ref v0), some (.int v1), none, none, none, none, none]) dX12_acknowledged_192 c_12_252 rfl rfl rfl (Nat.le_of_ble_eq_true rfl) (Nat.le_of_ble_eq_true rfl) rfl (Nat.le_of_ble_eq_true rfl) rfl rfl g22 g1 k
      · replace k := k.2 c
        refine w_aload_n dX12_acknowledged_172 rfl ?_
        refine w_getR dX12_acknowledged_173 f_12_72 t_12_22 g1 ?_
        refine w_iload_n dX12_acknowledged_176 rfl ?_
        refine w_faload dX12_acknowledged_177 g20 g21 ?_
        refine w_goto (pc' := 182) dX12_acknowledged_178 rfl rfl ?_
        refine w_fastore dX12_acknowledged_182 g20 g21 ?_
        refine w_aload_n dX12_acknowledged_183 rfl ?_
        refine w_getR dX12_acknowledged_184 f_12_69 t_12_21 g1 ?_
        refine w_iload_n dX12_acknowledged_187 rfl ?_
        refine w_iconst dX12_acknowledged_188 i1_1 ?_
        refine w_bastore dX12_acknowledged_189 g15 g16 rfl ?_
        refine w_aload_n dX12_acknowledged_190 rfl ?_
        refine w_iload_n dX12_acknowledged_191 rfl ?_
        obtain ⟨g23, k⟩ := k
        exact w_virt (as1 := [.int v1, .ref v0]) (as2 := [.ref v0, .int v1]) (rest := []) (lo2 := [some (.ref v0), some (.int v1), none, none, none, none, none]) dX12_acknowledged_192 c_12_252 rfl rfl rfl (Nat.le_of_ble_eq_true rfl) (Nat.le_of_ble_eq_true rfl) rfl (Nat.le_of_ble_eq_true rfl) rfl rfl g23 g1 k
theorem bX12_acknowledged_195 {d : Nat} {h : HP} {Q : Out → HP → Prop} {v0 : Nat} {v1 : Int32} {v2 : UInt32} {v3 : Int32} {v4 : Int32} (k : Q (.inl none) h) : WP d mX12_acknowledged 195 [some (.ref v0), some (.int v1), some (.float v2), some (.int v3), some (.int v4)] [] h Q := by
  exact w_return dX12_acknowledged_195 rfl k
theorem bX12_leases_0 {d : Nat} {h : HP} {Q : Out → HP → Prop} {v0 : Nat} {v1 : Int32} {u2 : Option Value} {u3 : Option Value} {u4 : Option Value} {u5 : Option Value} {u6 : Option Value} (k : WP d mX12_leases 7 [some (.ref v0), some (.int v1), some (.int (0 : Int32)), some (.float FP.fconst0), some (.int (0 : Int32)), u5, u6] [] h Q) : WP d mX12_leases 0 [some (.ref v0), some (.int v1), u2, u3, u4, u5, u6] [] h Q := by
  refine w_iconst dX12_leases_0 i1_0 ?_
  refine w_istore_n (lo' := [some (.ref v0), some (.int v1), some (.int (0 : Int32)), u3, u4, u5, u6]) dX12_leases_1 (ltQ rfl) rfl ?_
  refine w_fconst0 dX12_leases_2 ?_
  refine w_fstore_n (lo' := [some (.ref v0), some (.int v1), some (.int (0 : Int32)), some (.float FP.fconst0), u4, u5, u6]) dX12_leases_3 (ltQ rfl) rfl ?_
  refine w_iconst dX12_leases_4 i1_0 ?_
  refine w_istore (lo' := [some (.ref v0), some (.int v1), some (.int (0 : Int32)), some (.float FP.fconst0), some (.int (0 : Int32)), u5, u6]) dX12_leases_5 (ltQ rfl) rfl ?_
  exact k
theorem bX12_leases_7 {d : Nat} {h : HP} {Q : Out → HP → Prop} {v0 : Nat} {v1 : Int32} {v2 : Int32} {v3 : UInt32} {v4 : Int32} {u5 : Option Value} {u6 : Option Value} (k : (hK h v0 = 12) ∧ ((((hI h 1200 v0) ≤ v4) → ((v2 = 0) → Q (.inl none) h) ∧ ((¬ (v2 = 0)) → (hK h (hR h 1223 v0) = 21) ∧ ((inA h (hR h 1223 v0) v1 = true) ∧ ((nn32 (FP.fsub FP.fconst1 (hF h 1203 v0)) = true) ∧ ((nn32 (FP.fmul (hF h 1202 v0) (FP.fsub FP.fconst1 (hF h 1203 v0))) = true) ∧ ((nn32 (FP.fadd v3 (FP.fmul (hF h 1202 v0) (FP.fsub FP.fconst1 (hF h 1203 v0)))) = true) ∧ ((hK h (hR h 1224 v0) = 22) ∧ ((inA h (hR h 1224 v0) v1 = true) ∧ (Q (.inl none) (sAF (sAI h (hR h 1223 v0) (v1).toNatClampNeg (1 : Int32)) (hR h 1224 v0) (v1).toNatClampNeg (FP.fadd v3 (FP.fmul (hF h 1202 v0) (FP.fsub FP.fconst1 (hF h 1203 v0)))))))))))))) ∧ ((¬ ((hI h 1200 v0) ≤ v4)) → WP d mX12_leases 22 [some (.ref v0), some (.int v1), some (.int v2), some (.float v3), some (.int v4), some (.int (0 : Int32)), some (.int (0 : Int32))] [] h Q))) : WP d mX12_leases 7 [some (.ref v0), some (.int v1), some (.int v2), some (.float v3), some (.int v4), u5, u6] [] h Q := by
  refine w_iload dX12_leases_7 rfl ?_
  refine w_aload_n dX12_leases_9 rfl ?_
  obtain ⟨g1, k⟩ := k
  refine w_getI dX12_leases_10 f_12_7 t_12_0 g1 ?_
  refine w_ic_ge (pc' := 193) dX12_leases_13 rfl rfl ⟨fun c => ?_, fun c => ?_⟩
  · replace k := k.1 c
    refine w_iload_n dX12_leases_193 rfl ?_
    refine w_if_eq (pc' := 223) dX12_leases_194 rfl rfl ⟨fun c => ?_, fun c => ?_⟩
    · replace k := k.1 c
      exact w_return dX12_leases_223 rfl k
    · replace k := k.2 c
      refine w_aload_n dX12_leases_197 rfl ?_
      refine w_getR dX12_leases_198 f_12_75 t_12_23 g1 ?_
      refine w_iload_n dX12_leases_201 rfl ?_
      refine w_iconst dX12_leases_202 i1_1 ?_
      obtain ⟨g2, k⟩ := k
      obtain ⟨g3, k⟩ := k
      refine w_bastore dX12_leases_203 g2 g3 rfl ?_
      refine w_aload_n dX12_leases_204 rfl ?_
      refine w_getR dX12_leases_205 f_12_78 t_12_24 g1 ?_
      refine w_iload_n dX12_leases_208 rfl ?_
      refine w_fload_n dX12_leases_209 rfl ?_
      refine w_aload_n dX12_leases_210 rfl ?_
      refine w_getF dX12_leases_211 f_12_14 t_12_2 g1 ?_
      refine w_fconst1 dX12_leases_214 ?_
      refine w_aload_n dX12_leases_215 rfl ?_
      refine w_getF dX12_leases_216 f_12_161 t_12_3 g1 ?_
      obtain ⟨g4, k⟩ := k
      refine w_fsub dX12_leases_219 g4 ?_
      obtain ⟨g5, k⟩ := k
      refine w_fmul dX12_leases_220 g5 ?_
      obtain ⟨g6, k⟩ := k
      refine w_fadd dX12_leases_221 g6 ?_
      obtain ⟨g7, k⟩ := k
      obtain ⟨g8, k⟩ := k
      refine w_fastore dX12_leases_222 g7 g8 ?_
      exact w_return dX12_leases_223 rfl k
  · replace k := k.2 c
    refine w_iconst dX12_leases_16 i1_0 ?_
    refine w_istore (lo' := [some (.ref v0), some (.int v1), some (.int v2), some (.float v3), some (.int v4), some (.int (0 : Int32)), u6]) dX12_leases_17 (ltQ rfl) rfl ?_
    refine w_iconst dX12_leases_19 i1_0 ?_
    refine w_istore (lo' := [some (.ref v0), some (.int v1), some (.int v2), some (.float v3), some (.int v4), some (.int (0 : Int32)), some (.int (0 : Int32))]) dX12_leases_20 (ltQ rfl) rfl ?_
    exact k
theorem bX12_leases_22 {d : Nat} {h : HP} {Q : Out → HP → Prop} {v0 : Nat} {v1 : Int32} {v2 : Int32} {v3 : UInt32} {v4 : Int32} {v5 : Int32} {v6 : Int32} (k : (hK h v0 = 12) ∧ ((((hI h 1200 v0) ≤ v6) → ((v4 = v1) → WP (d + 1) mX12_leases 128 [some (.ref v0), some (.int v1), some (.int v2), some (.float v3), some (.int v4), some (.int v5), some (.int v6)] [] h Q) ∧ ((¬ (v4 = v1)) → (1 < v0) ∧ (WP d mX12_most 0 [some (.ref v0)] [] h (KK d mX12_leases mX12_most 116 [some (.ref v0), some (.int v1), some (.int v2), some (.float v3), some (.int v4), some (.int v5), some (.int v6)] [.int v5] Q)))) ∧ ((¬ ((hI h 1200 v0) ≤ v6)) → ((v6 = v1) → WP (d + 1) mX12_leases 97 [some (.ref v0), some (.int v1), some (.int v2), some (.float v3), some (.int v4), some (.int v5), some (.int v6)] [.int v5] h Q) ∧ ((¬ (v6 = v1)) → (hK h (hR h 1221 v0) = 21) ∧ ((inA h (hR h 1221 v0) (((5 : Int32) * v1) + v6) = true) ∧ ((((hAI h (hR h 1221 v0) ((((5 : Int32) * v1) + v6)).toNatClampNeg) = 0) → WP (d + 1) mX12_leases 97 [some (.ref v0), some (.int v1), some (.int v2), some (.float v3), some (.int v4), some (.int v5), some (.int v6)] [.int v5] h Q) ∧ ((¬ ((hAI h (hR h 1221 v0) ((((5 : Int32) * v1) + v6)).toNatClampNeg) = 0)) → (inA h (hR h 1221 v0) (((5 : Int32) * v1) + v4) = true) ∧ ((((hAI h (hR h 1221 v0) ((((5 : Int32) * v1) + v4)).toNatClampNeg) = 0) → WP (d + 1) mX12_leases 97 [some (.ref v0), some (.int v1), some (.int v2), some (.float v3), some (.int v4), some (.int v5), some (.int v6)] [.int v5] h Q) ∧ ((¬ ((hAI h (hR h 1221 v0) ((((5 : Int32) * v1) + v4)).toNatClampNeg) = 0)) → (hK h (hR h 1222 v0) = 22) ∧ ((inA h (hR h 1222 v0) (((5 : Int32) * v1) + v6) = true) ∧ ((inA h (hR h 1222 v0) (((5 : Int32) * v1) + v4) = true) ∧ ((((Op.cmpValue (FP.fcmp (hAF h (hR h 1222 v0) ((((5 : Int32) * v1) + v6)).toNatClampNeg) (hAF h (hR h 1222 v0) ((((5 : Int32) * v1) + v4)).toNatClampNeg)) .l) < 0) → WP (d + 1) mX12_leases 97 [some (.ref v0), some (.int v1), some (.int v2), some (.float v3), some (.int v4), some (.int v5), some (.int v6)] [.int v5] h Q) ∧ ((¬ ((Op.cmpValue (FP.fcmp (hAF h (hR h 1222 v0) ((((5 : Int32) * v1) + v6)).toNatClampNeg) (hAF h (hR h 1222 v0) ((((5 : Int32) * v1) + v4)).toNatClampNeg)) .l) < 0)) → WP (d + 1) mX12_leases 98 [some (.ref v0), some (.int v1), some (.int v2), some (.float v3), some (.int v4), some (.int v5), some (.int v6)] [.int (1 : Int32), .int v5] h Q))))))))))))) : WP (d + 1) mX12_leases 22 [some (.ref v0), some (.int v1), some (.int v2), some (.float v3), some (.int v4), some (.int v5), some (.int v6)] [] h Q := by
  refine w_iload dX12_leases_22 rfl ?_
  refine w_aload_n dX12_leases_24 rfl ?_
  obtain ⟨g1, k⟩ := k
  refine w_getI dX12_leases_25 f_12_7 t_12_0 g1 ?_
  refine w_ic_ge (pc' := 107) dX12_leases_28 rfl rfl ⟨fun c => ?_, fun c => ?_⟩
  · replace k := k.1 c
    refine w_iload dX12_leases_107 rfl ?_
    refine w_iload_n dX12_leases_109 rfl ?_
    refine w_ic_eq (pc' := 128) dX12_leases_110 rfl rfl ⟨fun c => ?_, fun c => ?_⟩
    · replace k := k.1 c
      exact k
    · replace k := k.2 c
      refine w_iload dX12_leases_113 rfl ?_
      refine w_aload_n dX12_leases_115 rfl ?_
      obtain ⟨g2, k⟩ := k
      exact w_virt (as1 := [.ref v0]) (as2 := [.ref v0]) (rest := [.int v5]) (lo2 := [some (.ref v0)]) dX12_leases_116 c_12_241 rfl rfl rfl (Nat.le_of_ble_eq_true rfl) (Nat.le_of_ble_eq_true rfl) rfl (Nat.le_of_ble_eq_true rfl) rfl rfl g2 g1 k
  · replace k := k.2 c
    refine w_iload dX12_leases_31 rfl ?_
    refine w_iload dX12_leases_33 rfl ?_
    refine w_iload_n dX12_leases_35 rfl ?_
    refine w_ic_eq (pc' := 97) dX12_leases_36 rfl rfl ⟨fun c => ?_, fun c => ?_⟩
    · replace k := k.1 c
      exact k
    · replace k := k.2 c
      refine w_aload_n dX12_leases_39 rfl ?_
      refine w_getR dX12_leases_40 f_12_69 t_12_21 g1 ?_
      refine w_iconst dX12_leases_43 i1_5 ?_
      refine w_iload_n dX12_leases_44 rfl ?_
      refine w_imul dX12_leases_45 ?_
      refine w_iload dX12_leases_46 rfl ?_
      refine w_iadd dX12_leases_48 ?_
      obtain ⟨g3, k⟩ := k
      obtain ⟨g4, k⟩ := k
      refine w_baload dX12_leases_49 g3 g4 ?_
      refine w_if_eq (pc' := 97) dX12_leases_50 rfl rfl ⟨fun c => ?_, fun c => ?_⟩
      · replace k := k.1 c
        exact k
      · replace k := k.2 c
        refine w_aload_n dX12_leases_53 rfl ?_
        refine w_getR dX12_leases_54 f_12_69 t_12_21 g1 ?_
        refine w_iconst dX12_leases_57 i1_5 ?_
        refine w_iload_n dX12_leases_58 rfl ?_
        refine w_imul dX12_leases_59 ?_
        refine w_iload dX12_leases_60 rfl ?_
        refine w_iadd dX12_leases_62 ?_
        obtain ⟨g5, k⟩ := k
        refine w_baload dX12_leases_63 g3 g5 ?_
        refine w_if_eq (pc' := 97) dX12_leases_64 rfl rfl ⟨fun c => ?_, fun c => ?_⟩
        · replace k := k.1 c
          exact k
        · replace k := k.2 c
          refine w_aload_n dX12_leases_67 rfl ?_
          refine w_getR dX12_leases_68 f_12_72 t_12_22 g1 ?_
          refine w_iconst dX12_leases_71 i1_5 ?_
          refine w_iload_n dX12_leases_72 rfl ?_
          refine w_imul dX12_leases_73 ?_
          refine w_iload dX12_leases_74 rfl ?_
          refine w_iadd dX12_leases_76 ?_
          obtain ⟨g6, k⟩ := k
          obtain ⟨g7, k⟩ := k
          refine w_faload dX12_leases_77 g6 g7 ?_
          refine w_aload_n dX12_leases_78 rfl ?_
          refine w_getR dX12_leases_79 f_12_72 t_12_22 g1 ?_
          refine w_iconst dX12_leases_82 i1_5 ?_
          refine w_iload_n dX12_leases_83 rfl ?_
          refine w_imul dX12_leases_84 ?_
          refine w_iload dX12_leases_85 rfl ?_
          refine w_iadd dX12_leases_87 ?_
          obtain ⟨g8, k⟩ := k
          refine w_faload dX12_leases_88 g6 g8 ?_
          refine w_fcmp dX12_leases_89 ?_
          refine w_if_lt (pc' := 97) dX12_leases_90 rfl rfl ⟨fun c => ?_, fun c => ?_⟩
          · replace k := k.1 c
            exact k
          · replace k := k.2 c
            refine w_iconst dX12_leases_93 i1_1 ?_
            refine w_goto (pc' := 98) dX12_leases_94 rfl rfl ?_
            exact k
theorem bX12_leases_97 {d : Nat} {h : HP} {Q : Out → HP → Prop} {v0 : Nat} {v1 : Int32} {v2 : Int32} {v3 : UInt32} {v4 : Int32} {v5 : Int32} {v6 : Int32} {s0 : Int32} (k : WP d mX12_leases 98 [some (.ref v0), some (.int v1), some (.int v2), some (.float v3), some (.int v4), some (.int v5), some (.int v6)] [.int (0 : Int32), .int s0] h Q) : WP d mX12_leases 97 [some (.ref v0), some (.int v1), some (.int v2), some (.float v3), some (.int v4), some (.int v5), some (.int v6)] [.int s0] h Q := by
  refine w_iconst dX12_leases_97 i1_0 ?_
  exact k
theorem bX12_leases_98 {d : Nat} {h : HP} {Q : Out → HP → Prop} {v0 : Nat} {v1 : Int32} {v2 : Int32} {v3 : UInt32} {v4 : Int32} {v5 : Int32} {v6 : Int32} {s0 : Int32} {s1 : Int32} (k : WP d mX12_leases 22 [some (.ref v0), some (.int v1), some (.int v2), some (.float v3), some (.int v4), some (.int (s1 + s0)), some (.int (v6 + (1 : Int32)))] [] h Q) : WP d mX12_leases 98 [some (.ref v0), some (.int v1), some (.int v2), some (.float v3), some (.int v4), some (.int v5), some (.int v6)] [.int s0, .int s1] h Q := by
  refine w_iadd dX12_leases_98 ?_
  refine w_istore (lo' := [some (.ref v0), some (.int v1), some (.int v2), some (.float v3), some (.int v4), some (.int (s1 + s0)), some (.int v6)]) dX12_leases_99 (ltQ rfl) rfl ?_
  refine w_iinc (lo' := [some (.ref v0), some (.int v1), some (.int v2), some (.float v3), some (.int v4), some (.int (s1 + s0)), some (.int (v6 + (1 : Int32)))]) dX12_leases_101 rfl i1_1 rfl ?_
  refine w_goto (pc' := 22) dX12_leases_104 rfl rfl ?_
  exact k
theorem bX12_leases_119 {d : Nat} {h : HP} {Q : Out → HP → Prop} {v0 : Nat} {v1 : Int32} {v2 : Int32} {v3 : UInt32} {v4 : Int32} {v5 : Int32} {v6 : Int32} {s0 : Int32} {s1 : Int32} (k : ((s1 < (s0 - (1 : Int32))) → WP d mX12_leases 128 [some (.ref v0), some (.int v1), some (.int v2), some (.float v3), some (.int v4), some (.int v5), some (.int v6)] [] h Q) ∧ ((¬ (s1 < (s0 - (1 : Int32)))) → WP d mX12_leases 129 [some (.ref v0), some (.int v1), some (.int v2), some (.float v3), some (.int v4), some (.int v5), some (.int v6)] [.int (1 : Int32)] h Q)) : WP d mX12_leases 119 [some (.ref v0), some (.int v1), some (.int v2), some (.float v3), some (.int v4), some (.int v5), some (.int v6)] [.int s0, .int s1] h Q := by
  refine w_iconst dX12_leases_119 i1_1 ?_
  refine w_isub dX12_leases_120 ?_
  refine w_ic_lt (pc' := 128) dX12_leases_121 rfl rfl ⟨fun c => ?_, fun c => ?_⟩
  · replace k := k.1 c
    exact k
  · replace k := k.2 c
    refine w_iconst dX12_leases_124 i1_1 ?_
    refine w_goto (pc' := 129) dX12_leases_125 rfl rfl ?_
    exact k
theorem bX12_leases_128 {d : Nat} {h : HP} {Q : Out → HP → Prop} {v0 : Nat} {v1 : Int32} {v2 : Int32} {v3 : UInt32} {v4 : Int32} {v5 : Int32} {v6 : Int32} (k : WP d mX12_leases 129 [some (.ref v0), some (.int v1), some (.int v2), some (.float v3), some (.int v4), some (.int v5), some (.int v6)] [.int (0 : Int32)] h Q) : WP d mX12_leases 128 [some (.ref v0), some (.int v1), some (.int v2), some (.float v3), some (.int v4), some (.int v5), some (.int v6)] [] h Q := by
  refine w_iconst dX12_leases_128 i1_0 ?_
  exact k
theorem bX12_leases_129 {d : Nat} {h : HP} {Q : Out → HP → Prop} {v0 : Nat} {v1 : Int32} {v2 : Int32} {v3 : UInt32} {v4 : Int32} {v5 : Int32} {v6 : Int32} {s0 : Int32} (k : ((s0 = 0) → ((¬ v2 = 0) → WP d mX12_leases 7 [some (.ref v0), some (.int v1), some (.int (1 : Int32)), some (.float v3), some (.int (v4 + (1 : Int32))), some (.int v5), some (.int s0)] [] h Q) ∧ ((¬ (¬ v2 = 0)) → ((s0 = 0) → WP d mX12_leases 7 [some (.ref v0), some (.int v1), some (.int (0 : Int32)), some (.float v3), some (.int (v4 + (1 : Int32))), some (.int v5), some (.int s0)] [] h Q) ∧ ((¬ (s0 = 0)) → WP d mX12_leases 7 [some (.ref v0), some (.int v1), some (.int (1 : Int32)), some (.float v3), some (.int (v4 + (1 : Int32))), some (.int v5), some (.int s0)] [] h Q))) ∧ ((¬ (s0 = 0)) → ((v2 = 0) → WP d mX12_leases 156 [some (.ref v0), some (.int v1), some (.int v2), some (.float v3), some (.int v4), some (.int v5), some (.int s0)] [] h Q) ∧ ((¬ (v2 = 0)) → (hK h v0 = 12) ∧ ((hK h (hR h 1222 v0) = 22) ∧ ((inA h (hR h 1222 v0) (((5 : Int32) * v1) + v4) = true) ∧ ((((Op.cmpValue (FP.fcmp (hAF h (hR h 1222 v0) ((((5 : Int32) * v1) + v4)).toNatClampNeg) v3) .l) ≤ 0) → ((¬ v2 = 0) → WP d mX12_leases 7 [some (.ref v0), some (.int v1), some (.int (1 : Int32)), some (.float v3), some (.int (v4 + (1 : Int32))), some (.int v5), some (.int s0)] [] h Q) ∧ ((¬ (¬ v2 = 0)) → ((s0 = 0) → WP d mX12_leases 7 [some (.ref v0), some (.int v1), some (.int (0 : Int32)), some (.float v3), some (.int (v4 + (1 : Int32))), some (.int v5), some (.int s0)] [] h Q) ∧ ((¬ (s0 = 0)) → WP d mX12_leases 7 [some (.ref v0), some (.int v1), some (.int (1 : Int32)), some (.float v3), some (.int (v4 + (1 : Int32))), some (.int v5), some (.int s0)] [] h Q))) ∧ ((¬ ((Op.cmpValue (FP.fcmp (hAF h (hR h 1222 v0) ((((5 : Int32) * v1) + v4)).toNatClampNeg) v3) .l) ≤ 0)) → WP d mX12_leases 156 [some (.ref v0), some (.int v1), some (.int v2), some (.float v3), some (.int v4), some (.int v5), some (.int s0)] [] h Q))))))) : WP d mX12_leases 129 [some (.ref v0), some (.int v1), some (.int v2), some (.float v3), some (.int v4), some (.int v5), some (.int v6)] [.int s0] h Q := by
  refine w_istore (lo' := [some (.ref v0), some (.int v1), some (.int v2), some (.float v3), some (.int v4), some (.int v5), some (.int s0)]) dX12_leases_129 (ltQ rfl) rfl ?_
  refine w_iload dX12_leases_131 rfl ?_
  refine w_if_eq (pc' := 170) dX12_leases_133 rfl rfl ⟨fun c => ?_, fun c => ?_⟩
  · replace k := k.1 c
    refine w_fload_n dX12_leases_170 rfl ?_
    refine w_fstore_n (lo' := [some (.ref v0), some (.int v1), some (.int v2), some (.float v3), some (.int v4), some (.int v5), some (.int s0)]) dX12_leases_171 (ltQ rfl) rfl ?_
    refine w_iload_n dX12_leases_172 rfl ?_
    refine w_if_ne (pc' := 181) dX12_leases_173 rfl rfl ⟨fun c => ?_, fun c => ?_⟩
    · replace k := k.1 c
      refine w_iconst dX12_leases_181 i1_1 ?_
      refine w_goto (pc' := 186) dX12_leases_182 rfl rfl ?_
      refine w_istore_n (lo' := [some (.ref v0), some (.int v1), some (.int (1 : Int32)), some (.float v3), some (.int v4), some (.int v5), some (.int s0)]) dX12_leases_186 (ltQ rfl) rfl ?_
      refine w_iinc (lo' := [some (.ref v0), some (.int v1), some (.int (1 : Int32)), some (.float v3), some (.int (v4 + (1 : Int32))), some (.int v5), some (.int s0)]) dX12_leases_187 rfl i1_1 rfl ?_
      refine w_goto (pc' := 7) dX12_leases_190 rfl rfl ?_
      exact k
    · replace k := k.2 c
      refine w_iload dX12_leases_176 rfl ?_
      refine w_if_eq (pc' := 185) dX12_leases_178 rfl rfl ⟨fun c => ?_, fun c => ?_⟩
      · replace k := k.1 c
        refine w_iconst dX12_leases_185 i1_0 ?_
        refine w_istore_n (lo' := [some (.ref v0), some (.int v1), some (.int (0 : Int32)), some (.float v3), some (.int v4), some (.int v5), some (.int s0)]) dX12_leases_186 (ltQ rfl) rfl ?_
        refine w_iinc (lo' := [some (.ref v0), some (.int v1), some (.int (0 : Int32)), some (.float v3), some (.int (v4 + (1 : Int32))), some (.int v5), some (.int s0)]) dX12_leases_187 rfl i1_1 rfl ?_
        refine w_goto (pc' := 7) dX12_leases_190 rfl rfl ?_
        exact k
      · replace k := k.2 c
        refine w_iconst dX12_leases_181 i1_1 ?_
        refine w_goto (pc' := 186) dX12_leases_182 rfl rfl ?_
        refine w_istore_n (lo' := [some (.ref v0), some (.int v1), some (.int (1 : Int32)), some (.float v3), some (.int v4), some (.int v5), some (.int s0)]) dX12_leases_186 (ltQ rfl) rfl ?_
        refine w_iinc (lo' := [some (.ref v0), some (.int v1), some (.int (1 : Int32)), some (.float v3), some (.int (v4 + (1 : Int32))), some (.int v5), some (.int s0)]) dX12_leases_187 rfl i1_1 rfl ?_
        refine w_goto (pc' := 7) dX12_leases_190 rfl rfl ?_
        exact k
  · replace k := k.2 c
    refine w_iload_n dX12_leases_136 rfl ?_
    refine w_if_eq (pc' := 156) dX12_leases_137 rfl rfl ⟨fun c => ?_, fun c => ?_⟩
    · replace k := k.1 c
      exact k
    · replace k := k.2 c
      refine w_aload_n dX12_leases_140 rfl ?_
      obtain ⟨g1, k⟩ := k
      refine w_getR dX12_leases_141 f_12_72 t_12_22 g1 ?_
      refine w_iconst dX12_leases_144 i1_5 ?_
      refine w_iload_n dX12_leases_145 rfl ?_
      refine w_imul dX12_leases_146 ?_
      refine w_iload dX12_leases_147 rfl ?_
      refine w_iadd dX12_leases_149 ?_
      obtain ⟨g2, k⟩ := k
      obtain ⟨g3, k⟩ := k
      refine w_faload dX12_leases_150 g2 g3 ?_
      refine w_fload_n dX12_leases_151 rfl ?_
      refine w_fcmp dX12_leases_152 ?_
      refine w_if_le (pc' := 170) dX12_leases_153 rfl rfl ⟨fun c => ?_, fun c => ?_⟩
      · replace k := k.1 c
        refine w_fload_n dX12_leases_170 rfl ?_
        refine w_fstore_n (lo' := [some (.ref v0), some (.int v1), some (.int v2), some (.float v3), some (.int v4), some (.int v5), some (.int s0)]) dX12_leases_171 (ltQ rfl) rfl ?_
        refine w_iload_n dX12_leases_172 rfl ?_
        refine w_if_ne (pc' := 181) dX12_leases_173 rfl rfl ⟨fun c => ?_, fun c => ?_⟩
        · replace k := k.1 c
          refine w_iconst dX12_leases_181 i1_1 ?_
          refine w_goto (pc' := 186) dX12_leases_182 rfl rfl ?_
          refine w_istore_n (lo' := [some (.ref v0), some (.int v1), some (.int (1 : Int32)), some (.float v3), some (.int v4), some (.int v5), some (.int s0)]) dX12_leases_186 (ltQ rfl) rfl ?_
          refine w_iinc (lo' := [some (.ref v0), some (.int v1), some (.int (1 : Int32)), some (.float v3), some (.int (v4 + (1 : Int32))), some (.int v5), some (.int s0)]) dX12_leases_187 rfl i1_1 rfl ?_
          refine w_goto (pc' := 7) dX12_leases_190 rfl rfl ?_
          exact k
        · replace k := k.2 c
          refine w_iload dX12_leases_176 rfl ?_
          refine w_if_eq (pc' := 185) dX12_leases_178 rfl rfl ⟨fun c => ?_, fun c => ?_⟩
          · replace k := k.1 c
            refine w_iconst dX12_leases_185 i1_0 ?_
            refine w_istore_n (lo' := [some (.ref v0), some (.int v1), some (.int (0 : Int32)), some (.float v3), some (.int v4), some (.int v5), some (.int s0)]) dX12_leases_186 (ltQ rfl) rfl ?_
            refine w_iinc (lo' := [some (.ref v0), some (.int v1), some (.int (0 : Int32)), some (.float v3), some (.int (v4 + (1 : Int32))), some (.int v5), some (.int s0)]) dX12_leases_187 rfl i1_1 rfl ?_
            refine w_goto (pc' := 7) dX12_leases_190 rfl rfl ?_
            exact k
          · replace k := k.2 c
            refine w_iconst dX12_leases_181 i1_1 ?_
            refine w_goto (pc' := 186) dX12_leases_182 rfl rfl ?_
            refine w_istore_n (lo' := [some (.ref v0), some (.int v1), some (.int (1 : Int32)), some (.float v3), some (.int v4), some (.int v5), some (.int s0)]) dX12_leases_186 (ltQ rfl) rfl ?_
            refine w_iinc (lo' := [some (.ref v0), some (.int v1), some (.int (1 : Int32)), some (.float v3), some (.int (v4 + (1 : Int32))), some (.int v5), some (.int s0)]) dX12_leases_187 rfl i1_1 rfl ?_
            refine w_goto (pc' := 7) dX12_leases_190 rfl rfl ?_
            exact k
      · replace k := k.2 c
        exact k
theorem bX12_leases_156 {d : Nat} {h : HP} {Q : Out → HP → Prop} {v0 : Nat} {v1 : Int32} {v2 : Int32} {v3 : UInt32} {v4 : Int32} {v5 : Int32} {v6 : Int32} (k : (hK h v0 = 12) ∧ ((hK h (hR h 1222 v0) = 22) ∧ ((inA h (hR h 1222 v0) (((5 : Int32) * v1) + v4) = true) ∧ (((¬ v2 = 0) → WP d mX12_leases 7 [some (.ref v0), some (.int v1), some (.int (1 : Int32)), some (.float (hAF h (hR h 1222 v0) ((((5 : Int32) * v1) + v4)).toNatClampNeg)), some (.int (v4 + (1 : Int32))), some (.int v5), some (.int v6)] [] h Q) ∧ ((¬ (¬ v2 = 0)) → ((v6 = 0) → WP d mX12_leases 7 [some (.ref v0), some (.int v1), some (.int (0 : Int32)), some (.float (hAF h (hR h 1222 v0) ((((5 : Int32) * v1) + v4)).toNatClampNeg)), some (.int (v4 + (1 : Int32))), some (.int v5), some (.int v6)] [] h Q) ∧ ((¬ (v6 = 0)) → WP d mX12_leases 7 [some (.ref v0), some (.int v1), some (.int (1 : Int32)), some (.float (hAF h (hR h 1222 v0) ((((5 : Int32) * v1) + v4)).toNatClampNeg)), some (.int (v4 + (1 : Int32))), some (.int v5), some (.int v6)] [] h Q)))))) : WP d mX12_leases 156 [some (.ref v0), some (.int v1), some (.int v2), some (.float v3), some (.int v4), some (.int v5), some (.int v6)] [] h Q := by
  refine w_aload_n dX12_leases_156 rfl ?_
  obtain ⟨g1, k⟩ := k
  refine w_getR dX12_leases_157 f_12_72 t_12_22 g1 ?_
  refine w_iconst dX12_leases_160 i1_5 ?_
  refine w_iload_n dX12_leases_161 rfl ?_
  refine w_imul dX12_leases_162 ?_
  refine w_iload dX12_leases_163 rfl ?_
  refine w_iadd dX12_leases_165 ?_
  obtain ⟨g2, k⟩ := k
  obtain ⟨g3, k⟩ := k
  refine w_faload dX12_leases_166 g2 g3 ?_
  refine w_goto (pc' := 171) dX12_leases_167 rfl rfl ?_
  refine w_fstore_n (lo' := [some (.ref v0), some (.int v1), some (.int v2), some (.float (hAF h (hR h 1222 v0) ((((5 : Int32) * v1) + v4)).toNatClampNeg)), some (.int v4), some (.int v5), some (.int v6)]) dX12_leases_171 (ltQ rfl) rfl ?_
  refine w_iload_n dX12_leases_172 rfl ?_
  refine w_if_ne (pc' := 181) dX12_leases_173 rfl rfl ⟨fun c => ?_, fun c => ?_⟩
  · replace k := k.1 c
    refine w_iconst dX12_leases_181 i1_1 ?_
    refine w_goto (pc' := 186) dX12_leases_182 rfl rfl ?_
    refine w_istore_n (lo' := [some (.ref v0), some (.int v1), some (.int (1 : Int32)), some (.float (hAF h (hR h 1222 v0) ((((5 : Int32) * v1) + v4)).toNatClampNeg)), some (.int v4), some (.int v5), some (.int v6)]) dX12_leases_186 (ltQ rfl) rfl ?_
    refine w_iinc (lo' := [some (.ref v0), some (.int v1), some (.int (1 : Int32)), some (.float (hAF h (hR h 1222 v0) ((((5 : Int32) * v1) + v4)).toNatClampNeg)), some (.int (v4 + (1 : Int32))), some (.int v5), some (.int v6)]) dX12_leases_187 rfl i1_1 rfl ?_
    refine w_goto (pc' := 7) dX12_leases_190 rfl rfl ?_
    exact k
  · replace k := k.2 c
    refine w_iload dX12_leases_176 rfl ?_
    refine w_if_eq (pc' := 185) dX12_leases_178 rfl rfl ⟨fun c => ?_, fun c => ?_⟩
    · replace k := k.1 c
      refine w_iconst dX12_leases_185 i1_0 ?_
      refine w_istore_n (lo' := [some (.ref v0), some (.int v1), some (.int (0 : Int32)), some (.float (hAF h (hR h 1222 v0) ((((5 : Int32) * v1) + v4)).toNatClampNeg)), some (.int v4), some (.int v5), some (.int v6)]) dX12_leases_186 (ltQ rfl) rfl ?_
      refine w_iinc (lo' := [some (.ref v0), some (.int v1), some (.int (0 : Int32)), some (.float (hAF h (hR h 1222 v0) ((((5 : Int32) * v1) + v4)).toNatClampNeg)), some (.int (v4 + (1 : Int32))), some (.int v5), some (.int v6)]) dX12_leases_187 rfl i1_1 rfl ?_
      refine w_goto (pc' := 7) dX12_leases_190 rfl rfl ?_
      exact k
    · replace k := k.2 c
      refine w_iconst dX12_leases_181 i1_1 ?_
      refine w_goto (pc' := 186) dX12_leases_182 rfl rfl ?_
      refine w_istore_n (lo' := [some (.ref v0), some (.int v1), some (.int (1 : Int32)), some (.float (hAF h (hR h 1222 v0) ((((5 : Int32) * v1) + v4)).toNatClampNeg)), some (.int v4), some (.int v5), some (.int v6)]) dX12_leases_186 (ltQ rfl) rfl ?_
      refine w_iinc (lo' := [some (.ref v0), some (.int v1), some (.int (1 : Int32)), some (.float (hAF h (hR h 1222 v0) ((((5 : Int32) * v1) + v4)).toNatClampNeg)), some (.int (v4 + (1 : Int32))), some (.int v5), some (.int v6)]) dX12_leases_187 rfl i1_1 rfl ?_
      refine w_goto (pc' := 7) dX12_leases_190 rfl rfl ?_
      exact k
theorem bX12_actOf_0 {d : Nat} {h : HP} {Q : Out → HP → Prop} {v0 : Nat} {v1 : Int32} {v2 : Int32} {u3 : Option Value} (k : WP d mX12_actOf 2 [some (.ref v0), some (.int v1), some (.int v2), some (.int (0 : Int32))] [] h Q) : WP d mX12_actOf 0 [some (.ref v0), some (.int v1), some (.int v2), u3] [] h Q := by
  refine w_iconst dX12_actOf_0 i1_0 ?_
  refine w_istore_n (lo' := [some (.ref v0), some (.int v1), some (.int v2), some (.int (0 : Int32))]) dX12_actOf_1 (ltQ rfl) rfl ?_
  exact k
theorem bX12_actOf_2 {d : Nat} {h : HP} {Q : Out → HP → Prop} {v0 : Nat} {v1 : Int32} {v2 : Int32} {v3 : Int32} (k : (hK h v0 = 12) ∧ ((((hI h 1247 v0) ≤ v3) → Q (.inl (some (.int (-1 : Int32)))) h) ∧ ((¬ ((hI h 1247 v0) ≤ v3)) → (hK h (hR h 1241 v0) = 21) ∧ ((inA h (hR h 1241 v0) v3 = true) ∧ ((((hAI h (hR h 1241 v0) (v3).toNatClampNeg) = 0) → WP d mX12_actOf 2 [some (.ref v0), some (.int v1), some (.int v2), some (.int (v3 + (1 : Int32)))] [] h Q) ∧ ((¬ ((hAI h (hR h 1241 v0) (v3).toNatClampNeg) = 0)) → (hK h (hR h 1242 v0) = 20) ∧ ((inA h (hR h 1242 v0) v3 = true) ∧ (((¬ (hAI h (hR h 1242 v0) (v3).toNatClampNeg) = v1) → WP d mX12_actOf 2 [some (.ref v0), some (.int v1), some (.int v2), some (.int (v3 + (1 : Int32)))] [] h Q) ∧ ((¬ (¬ (hAI h (hR h 1242 v0) (v3).toNatClampNeg) = v1)) → (hK h (hR h 1243 v0) = 20) ∧ ((inA h (hR h 1243 v0) v3 = true) ∧ (((¬ (hAI h (hR h 1243 v0) (v3).toNatClampNeg) = v2) → WP d mX12_actOf 2 [some (.ref v0), some (.int v1), some (.int v2), some (.int (v3 + (1 : Int32)))] [] h Q) ∧ ((¬ (¬ (hAI h (hR h 1243 v0) (v3).toNatClampNeg) = v2)) → Q (.inl (some (.int v3))) h)))))))))))) : WP d mX12_actOf 2 [some (.ref v0), some (.int v1), some (.int v2), some (.int v3)] [] h Q := by
  refine w_iload_n dX12_actOf_2 rfl ?_
  refine w_aload_n dX12_actOf_3 rfl ?_
  obtain ⟨g1, k⟩ := k
  refine w_getI dX12_actOf_4 f_12_170 t_12_47 g1 ?_
  refine w_ic_ge (pc' := 47) dX12_actOf_7 rfl rfl ⟨fun c => ?_, fun c => ?_⟩
  · replace k := k.1 c
    refine w_iconst dX12_actOf_47 i1_m1 ?_
    exact w_ireturn dX12_actOf_48 rfl k
  · replace k := k.2 c
    refine w_aload_n dX12_actOf_10 rfl ?_
    refine w_getR dX12_actOf_11 f_12_123 t_12_41 g1 ?_
    refine w_iload_n dX12_actOf_14 rfl ?_
    obtain ⟨g2, k⟩ := k
    obtain ⟨g3, k⟩ := k
    refine w_baload dX12_actOf_15 g2 g3 ?_
    refine w_if_eq (pc' := 41) dX12_actOf_16 rfl rfl ⟨fun c => ?_, fun c => ?_⟩
    · replace k := k.1 c
      refine w_iinc (lo' := [some (.ref v0), some (.int v1), some (.int v2), some (.int (v3 + (1 : Int32)))]) dX12_actOf_41 rfl i1_1 rfl ?_
      refine w_goto (pc' := 2) dX12_actOf_44 rfl rfl ?_
      exact k
    · replace k := k.2 c
      refine w_aload_n dX12_actOf_19 rfl ?_
      refine w_getR dX12_actOf_20 f_12_126 t_12_42 g1 ?_
      refine w_iload_n dX12_actOf_23 rfl ?_
      obtain ⟨g4, k⟩ := k
      obtain ⟨g5, k⟩ := k
      refine w_iaload dX12_actOf_24 g4 g5 ?_
      refine w_iload_n dX12_actOf_25 rfl ?_
      refine w_ic_ne (pc' := 41) dX12_actOf_26 rfl rfl ⟨fun c => ?_, fun c => ?_⟩
      · replace k := k.1 c
        refine w_iinc (lo' := [some (.ref v0), some (.int v1), some (.int v2), some (.int (v3 + (1 : Int32)))]) dX12_actOf_41 rfl i1_1 rfl ?_
        refine w_goto (pc' := 2) dX12_actOf_44 rfl rfl ?_
        exact k
      · replace k := k.2 c
        refine w_aload_n dX12_actOf_29 rfl ?_
        refine w_getR dX12_actOf_30 f_12_129 t_12_43 g1 ?_
        refine w_iload_n dX12_actOf_33 rfl ?_
        obtain ⟨g6, k⟩ := k
        obtain ⟨g7, k⟩ := k
        refine w_iaload dX12_actOf_34 g6 g7 ?_
        refine w_iload_n dX12_actOf_35 rfl ?_
        refine w_ic_ne (pc' := 41) dX12_actOf_36 rfl rfl ⟨fun c => ?_, fun c => ?_⟩
        · replace k := k.1 c
          refine w_iinc (lo' := [some (.ref v0), some (.int v1), some (.int v2), some (.int (v3 + (1 : Int32)))]) dX12_actOf_41 rfl i1_1 rfl ?_
          refine w_goto (pc' := 2) dX12_actOf_44 rfl rfl ?_
          exact k
        · replace k := k.2 c
          refine w_iload_n dX12_actOf_39 rfl ?_
          exact w_ireturn dX12_actOf_40 rfl k
theorem bX12_acts_0 {d : Nat} {h : HP} {Q : Out → HP → Prop} {v0 : Nat} {v1 : Int32} {v2 : Int32} {v3 : Int32} {v4 : Int32} {v5 : Int32} (k : (hK h v0 = 12) ∧ ((hK h (hR h 1241 v0) = 21) ∧ ((inA h (hR h 1241 v0) (hI h 1247 v0) = true) ∧ ((isZ v1 = true) ∧ ((hK h (hR h 1242 v0) = 20) ∧ ((inA h (hR h 1242 v0) (hI h 1247 v0) = true) ∧ ((hK h (hR h 1243 v0) = 20) ∧ ((inA h (hR h 1243 v0) (hI h 1247 v0) = true) ∧ ((hK h (hR h 1244 v0) = 20) ∧ ((inA h (hR h 1244 v0) (hI h 1247 v0) = true) ∧ ((hK h (hR h 1245 v0) = 20) ∧ ((inA h (hR h 1245 v0) (hI h 1247 v0) = true) ∧ ((hK h (hR h 1246 v0) = 20) ∧ ((inA h (hR h 1246 v0) (hI h 1247 v0) = true) ∧ (Q (.inl none) (sI (sAI (sAI (sAI (sAI (sAI (sAI h (hR h 1241 v0) ((hI h 1247 v0)).toNatClampNeg v1) (hR h 1242 v0) ((hI h 1247 v0)).toNatClampNeg v2) (hR h 1243 v0) ((hI h 1247 v0)).toNatClampNeg v3) (hR h 1244 v0) ((hI h 1247 v0)).toNatClampNeg v4) (hR h 1245 v0) ((hI h 1247 v0)).toNatClampNeg (hI h 1204 v0)) (hR h 1246 v0) ((hI h 1247 v0)).toNatClampNeg v5) 1247 v0 ((hI h 1247 v0) + (1 : Int32)))))))))))))))))) : WP d mX12_acts 0 [some (.ref v0), some (.int v1), some (.int v2), some (.int v3), some (.int v4), some (.int v5)] [] h Q := by
  refine w_aload_n dX12_acts_0 rfl ?_
  obtain ⟨g1, k⟩ := k
  refine w_getR dX12_acts_1 f_12_123 t_12_41 g1 ?_
  refine w_aload_n dX12_acts_4 rfl ?_
  refine w_getI dX12_acts_5 f_12_170 t_12_47 g1 ?_
  refine w_iload_n dX12_acts_8 rfl ?_
  obtain ⟨g2, k⟩ := k
  obtain ⟨g3, k⟩ := k
  obtain ⟨g4, k⟩ := k
  refine w_bastore dX12_acts_9 g2 g3 g4 ?_
  refine w_aload_n dX12_acts_10 rfl ?_
  refine w_getR dX12_acts_11 f_12_126 t_12_42 g1 ?_
  refine w_aload_n dX12_acts_14 rfl ?_
  refine w_getI dX12_acts_15 f_12_170 t_12_47 g1 ?_
  refine w_iload_n dX12_acts_18 rfl ?_
  obtain ⟨g5, k⟩ := k
  obtain ⟨g6, k⟩ := k
  refine w_iastore dX12_acts_19 g5 g6 ?_
  refine w_aload_n dX12_acts_20 rfl ?_
  refine w_getR dX12_acts_21 f_12_129 t_12_43 g1 ?_
  refine w_aload_n dX12_acts_24 rfl ?_
  refine w_getI dX12_acts_25 f_12_170 t_12_47 g1 ?_
  refine w_iload_n dX12_acts_28 rfl ?_
  obtain ⟨g7, k⟩ := k
  obtain ⟨g8, k⟩ := k
  refine w_iastore dX12_acts_29 g7 g8 ?_
  refine w_aload_n dX12_acts_30 rfl ?_
  refine w_getR dX12_acts_31 f_12_132 t_12_44 g1 ?_
  refine w_aload_n dX12_acts_34 rfl ?_
  refine w_getI dX12_acts_35 f_12_170 t_12_47 g1 ?_
  refine w_iload dX12_acts_38 rfl ?_
  obtain ⟨g9, k⟩ := k
  obtain ⟨g10, k⟩ := k
  refine w_iastore dX12_acts_40 g9 g10 ?_
  refine w_aload_n dX12_acts_41 rfl ?_
  refine w_getR dX12_acts_42 f_12_135 t_12_45 g1 ?_
  refine w_aload_n dX12_acts_45 rfl ?_
  refine w_getI dX12_acts_46 f_12_170 t_12_47 g1 ?_
  refine w_aload_n dX12_acts_49 rfl ?_
  refine w_getI dX12_acts_50 f_12_164 t_12_4 g1 ?_
  obtain ⟨g11, k⟩ := k
  obtain ⟨g12, k⟩ := k
  refine w_iastore dX12_acts_53 g11 g12 ?_
  refine w_aload_n dX12_acts_54 rfl ?_
  refine w_getR dX12_acts_55 f_12_138 t_12_46 g1 ?_
  refine w_aload_n dX12_acts_58 rfl ?_
  refine w_getI dX12_acts_59 f_12_170 t_12_47 g1 ?_
  refine w_iload dX12_acts_62 rfl ?_
  obtain ⟨g13, k⟩ := k
  obtain ⟨g14, k⟩ := k
  refine w_iastore dX12_acts_64 g13 g14 ?_
  refine w_aload_n dX12_acts_65 rfl ?_
  refine w_dup dX12_acts_66 rfl ?_
  refine w_getI dX12_acts_67 f_12_170 t_12_47 g1 ?_
  refine w_iconst dX12_acts_70 i1_1 ?_
  refine w_iadd dX12_acts_71 ?_
  refine w_putI dX12_acts_72 f_12_170 t_12_47 (pf_nf n_12_47) g1 ?_
  exact w_return dX12_acts_75 rfl k
theorem bX12_entryOf_0 {d : Nat} {h : HP} {Q : Out → HP → Prop} {v0 : Nat} {v1 : Int32} {v2 : Int32} {v3 : Int32} {v4 : Int32} {u5 : Option Value} {u6 : Option Value} (k : WP d mX12_entryOf 3 [some (.ref v0), some (.int v1), some (.int v2), some (.int v3), some (.int v4), some (.int (0 : Int32)), u6] [] h Q) : WP d mX12_entryOf 0 [some (.ref v0), some (.int v1), some (.int v2), some (.int v3), some (.int v4), u5, u6] [] h Q := by
  refine w_iconst dX12_entryOf_0 i1_0 ?_
  refine w_istore (lo' := [some (.ref v0), some (.int v1), some (.int v2), some (.int v3), some (.int v4), some (.int (0 : Int32)), u6]) dX12_entryOf_1 (ltQ rfl) rfl ?_
  exact k
theorem bX12_entryOf_3 {d : Nat} {h : HP} {Q : Out → HP → Prop} {v0 : Nat} {v1 : Int32} {v2 : Int32} {v3 : Int32} {v4 : Int32} {v5 : Int32} {u6 : Option Value} (k : (hK h v0 = 12) ∧ ((hK h (hR h 1212 v0) = 20) ∧ ((inA h (hR h 1212 v0) v1 = true) ∧ ((((hAI h (hR h 1212 v0) (v1).toNatClampNeg) ≤ v5) → Q (.inl (some (.int (0 : Int32)))) h) ∧ ((¬ ((hAI h (hR h 1212 v0) (v1).toNatClampNeg) ≤ v5)) → (hK h (hR h 1215 v0) = 20) ∧ ((inA h (hR h 1215 v0) (((30 : Int32) * v1) + v5) = true) ∧ (((¬ (hAI h (hR h 1215 v0) ((((30 : Int32) * v1) + v5)).toNatClampNeg) = v2) → WP d mX12_entryOf 3 [some (.ref v0), some (.int v1), some (.int v2), some (.int v3), some (.int v4), some (.int (v5 + (1 : Int32))), some (.int (((30 : Int32) * v1) + v5))] [] h Q) ∧ ((¬ (¬ (hAI h (hR h 1215 v0) ((((30 : Int32) * v1) + v5)).toNatClampNeg) = v2)) → (hK h (hR h 1216 v0) = 20) ∧ ((inA h (hR h 1216 v0) (((30 : Int32) * v1) + v5) = true) ∧ ((((hAI h (hR h 1216 v0) ((((30 : Int32) * v1) + v5)).toNatClampNeg) = v3) → Q (.inl (some (.int (v5 + (1 : Int32))))) h) ∧ ((¬ ((hAI h (hR h 1216 v0) ((((30 : Int32) * v1) + v5)).toNatClampNeg) = v3)) → ((v4 = 0) → WP d mX12_entryOf 3 [some (.ref v0), some (.int v1), some (.int v2), some (.int v3), some (.int v4), some (.int (v5 + (1 : Int32))), some (.int (((30 : Int32) * v1) + v5))] [] h Q) ∧ ((¬ (v4 = 0)) → (((hAI h (hR h 1216 v0) ((((30 : Int32) * v1) + v5)).toNatClampNeg) ≤ v3) → WP d mX12_entryOf 3 [some (.ref v0), some (.int v1), some (.int v2), some (.int v3), some (.int v4), some (.int (v5 + (1 : Int32))), some (.int (((30 : Int32) * v1) + v5))] [] h Q) ∧ ((¬ ((hAI h (hR h 1216 v0) ((((30 : Int32) * v1) + v5)).toNatClampNeg) ≤ v3)) → Q (.inl (some (.int (v5 + (1 : Int32))))) h))))))))))))) : WP d mX12_entryOf 3 [some (.ref v0), some (.int v1), some (.int v2), some (.int v3), some (.int v4), some (.int v5), u6] [] h Q := by
  refine w_iload dX12_entryOf_3 rfl ?_
  refine w_aload_n dX12_entryOf_5 rfl ?_
  obtain ⟨g1, k⟩ := k
  refine w_getR dX12_entryOf_6 f_12_42 t_12_12 g1 ?_
  refine w_iload_n dX12_entryOf_9 rfl ?_
  obtain ⟨g2, k⟩ := k
  obtain ⟨g3, k⟩ := k
  refine w_iaload dX12_entryOf_10 g2 g3 ?_
  refine w_ic_ge (pc' := 72) dX12_entryOf_11 rfl rfl ⟨fun c => ?_, fun c => ?_⟩
  · replace k := k.1 c
    refine w_iconst dX12_entryOf_72 i1_0 ?_
    exact w_ireturn dX12_entryOf_73 rfl k
  · replace k := k.2 c
    refine w_bipush dX12_entryOf_14 i2_30 ?_
    refine w_iload_n dX12_entryOf_16 rfl ?_
    refine w_imul dX12_entryOf_17 ?_
    refine w_iload dX12_entryOf_18 rfl ?_
    refine w_iadd dX12_entryOf_20 ?_
    refine w_istore (lo' := [some (.ref v0), some (.int v1), some (.int v2), some (.int v3), some (.int v4), some (.int v5), some (.int (((30 : Int32) * v1) + v5))]) dX12_entryOf_21 (ltQ rfl) rfl ?_
    refine w_aload_n dX12_entryOf_23 rfl ?_
    refine w_getR dX12_entryOf_24 f_12_51 t_12_15 g1 ?_
    refine w_iload dX12_entryOf_27 rfl ?_
    obtain ⟨g4, k⟩ := k
    obtain ⟨g5, k⟩ := k
    refine w_iaload dX12_entryOf_29 g4 g5 ?_
    refine w_iload_n dX12_entryOf_30 rfl ?_
    refine w_ic_ne (pc' := 66) dX12_entryOf_31 rfl rfl ⟨fun c => ?_, fun c => ?_⟩
    · replace k := k.1 c
      refine w_iinc (lo' := [some (.ref v0), some (.int v1), some (.int v2), some (.int v3), some (.int v4), some (.int (v5 + (1 : Int32))), some (.int (((30 : Int32) * v1) + v5))]) dX12_entryOf_66 rfl i1_1 rfl ?_
      refine w_goto (pc' := 3) dX12_entryOf_69 rfl rfl ?_
      exact k
    · replace k := k.2 c
      refine w_aload_n dX12_entryOf_34 rfl ?_
      refine w_getR dX12_entryOf_35 f_12_54 t_12_16 g1 ?_
      refine w_iload dX12_entryOf_38 rfl ?_
      obtain ⟨g6, k⟩ := k
      obtain ⟨g7, k⟩ := k
      refine w_iaload dX12_entryOf_40 g6 g7 ?_
      refine w_iload_n dX12_entryOf_41 rfl ?_
      refine w_ic_eq (pc' := 61) dX12_entryOf_42 rfl rfl ⟨fun c => ?_, fun c => ?_⟩
      · replace k := k.1 c
        refine w_iload dX12_entryOf_61 rfl ?_
        refine w_iconst dX12_entryOf_63 i1_1 ?_
        refine w_iadd dX12_entryOf_64 ?_
        exact w_ireturn dX12_entryOf_65 rfl k
      · replace k := k.2 c
        refine w_iload dX12_entryOf_45 rfl ?_
        refine w_if_eq (pc' := 66) dX12_entryOf_47 rfl rfl ⟨fun c => ?_, fun c => ?_⟩
        · replace k := k.1 c
          refine w_iinc (lo' := [some (.ref v0), some (.int v1), some (.int v2), some (.int v3), some (.int v4), some (.int (v5 + (1 : Int32))), some (.int (((30 : Int32) * v1) + v5))]) dX12_entryOf_66 rfl i1_1 rfl ?_
          refine w_goto (pc' := 3) dX12_entryOf_69 rfl rfl ?_
          exact k
        · replace k := k.2 c
          refine w_aload_n dX12_entryOf_50 rfl ?_
          refine w_getR dX12_entryOf_51 f_12_54 t_12_16 g1 ?_
          refine w_iload dX12_entryOf_54 rfl ?_
          refine w_iaload dX12_entryOf_56 g6 g7 ?_
          refine w_iload_n dX12_entryOf_57 rfl ?_
          refine w_ic_le (pc' := 66) dX12_entryOf_58 rfl rfl ⟨fun c => ?_, fun c => ?_⟩
          · replace k := k.1 c
            refine w_iinc (lo' := [some (.ref v0), some (.int v1), some (.int v2), some (.int v3), some (.int v4), some (.int (v5 + (1 : Int32))), some (.int (((30 : Int32) * v1) + v5))]) dX12_entryOf_66 rfl i1_1 rfl ?_
            refine w_goto (pc' := 3) dX12_entryOf_69 rfl rfl ?_
            exact k
          · replace k := k.2 c
            refine w_iload dX12_entryOf_61 rfl ?_
            refine w_iconst dX12_entryOf_63 i1_1 ?_
            refine w_iadd dX12_entryOf_64 ?_
            exact w_ireturn dX12_entryOf_65 rfl k
theorem bX12_request_0 {d : Nat} {h : HP} {Q : Out → HP → Prop} {v0 : Nat} {v1 : Int32} {v2 : Int32} {v3 : Int32} {v4 : Int32} {u5 : Option Value} {u6 : Option Value} {u7 : Option Value} {u8 : Option Value} {u9 : Option Value} {u10 : Option Value} (k : (1 < v0) ∧ ((hK h v0 = 12) ∧ (WP d mX12_isMachine 0 [some (.ref v0), some (.int v1)] [] h (KK d mX12_request mX12_isMachine 2 [some (.ref v0), some (.int v1), some (.int v2), some (.int v3), some (.int v4), u5, u6, u7, u8, u9, u10] [] Q)))) : WP (d + 1) mX12_request 0 [some (.ref v0), some (.int v1), some (.int v2), some (.int v3), some (.int v4), u5, u6, u7, u8, u9, u10] [] h Q := by
  refine w_aload_n dX12_request_0 rfl ?_
  refine w_iload_n dX12_request_1 rfl ?_
  obtain ⟨g1, k⟩ := k
  obtain ⟨g2, k⟩ := k
  exact w_virt (as1 := [.int v1, .ref v0]) (as2 := [.ref v0, .int v1]) (rest := []) (lo2 := [some (.ref v0), some (.int v1)]) dX12_request_2 c_12_181 rfl rfl rfl (Nat.le_of_ble_eq_true rfl) (Nat.le_of_ble_eq_true rfl) rfl (Nat.le_of_ble_eq_true rfl) rfl rfl g1 g2 k
theorem bX12_request_5 {d : Nat} {h : HP} {Q : Out → HP → Prop} {v0 : Nat} {v1 : Int32} {v2 : Int32} {v3 : Int32} {v4 : Int32} {u5 : Option Value} {u6 : Option Value} {u7 : Option Value} {u8 : Option Value} {u9 : Option Value} {u10 : Option Value} {s0 : Int32} (k : ((s0 = 0) → WP d mX12_in 0 [some (.int v3), some (.int (1 : Int32)), some (.int (99 : Int32))] [] h (KK d mX12_request mX12_in 28 [some (.ref v0), some (.int v1), some (.int v2), some (.int v3), some (.int v4), some (.int (0 : Int32)), u6, u7, u8, u9, u10] [] Q)) ∧ ((¬ (s0 = 0)) → WP d mX12_in 0 [some (.int v2), some (.int (0 : Int32)), some (.int (3 : Int32))] [] h (KK d mX12_request mX12_in 11 [some (.ref v0), some (.int v1), some (.int v2), some (.int v3), some (.int v4), u5, u6, u7, u8, u9, u10] [] Q))) : WP (d + 1) mX12_request 5 [some (.ref v0), some (.int v1), some (.int v2), some (.int v3), some (.int v4), u5, u6, u7, u8, u9, u10] [.int s0] h Q := by
  refine w_if_eq (pc' := 21) dX12_request_5 rfl rfl ⟨fun c => ?_, fun c => ?_⟩
  · replace k := k.1 c
    refine w_iconst dX12_request_21 i1_0 ?_
    refine w_istore (lo' := [some (.ref v0), some (.int v1), some (.int v2), some (.int v3), some (.int v4), some (.int (0 : Int32)), u6, u7, u8, u9, u10]) dX12_request_22 (ltQ rfl) rfl ?_
    refine w_iload_n dX12_request_24 rfl ?_
    refine w_iconst dX12_request_25 i1_1 ?_
    refine w_bipush dX12_request_26 i2_99 ?_
    exact w_stat (as1 := [.int (99 : Int32), .int (1 : Int32), .int v3]) (as2 := [.int v3, .int (1 : Int32), .int (99 : Int32)]) (rest := []) (lo2 := [some (.int v3), some (.int (1 : Int32)), some (.int (99 : Int32))]) dX12_request_28 c_12_154 rfl rfl rfl (Nat.le_of_ble_eq_true rfl) (Nat.le_of_ble_eq_true rfl) rfl (Nat.le_of_ble_eq_true rfl) rfl k
  · replace k := k.2 c
    refine w_iload_n dX12_request_8 rfl ?_
    refine w_iconst dX12_request_9 i1_0 ?_
    refine w_iconst dX12_request_10 i1_3 ?_
    exact w_stat (as1 := [.int (3 : Int32), .int (0 : Int32), .int v2]) (as2 := [.int v2, .int (0 : Int32), .int (3 : Int32)]) (rest := []) (lo2 := [some (.int v2), some (.int (0 : Int32)), some (.int (3 : Int32))]) dX12_request_11 c_12_154 rfl rfl rfl (Nat.le_of_ble_eq_true rfl) (Nat.le_of_ble_eq_true rfl) rfl (Nat.le_of_ble_eq_true rfl) rfl k
theorem bX12_request_14 {d : Nat} {h : HP} {Q : Out → HP → Prop} {v0 : Nat} {v1 : Int32} {v2 : Int32} {v3 : Int32} {v4 : Int32} {u5 : Option Value} {u6 : Option Value} {u7 : Option Value} {u8 : Option Value} {u9 : Option Value} {u10 : Option Value} {s0 : Int32} (k : ((s0 = 0) → WP d mX12_in 0 [some (.int v3), some (.int (1 : Int32)), some (.int (99 : Int32))] [] h (KK d mX12_request mX12_in 28 [some (.ref v0), some (.int v1), some (.int v2), some (.int v3), some (.int v4), some (.int (0 : Int32)), u6, u7, u8, u9, u10] [] Q)) ∧ ((¬ (s0 = 0)) → WP d mX12_in 0 [some (.int v3), some (.int (1 : Int32)), some (.int (99 : Int32))] [] h (KK d mX12_request mX12_in 28 [some (.ref v0), some (.int v1), some (.int v2), some (.int v3), some (.int v4), some (.int (1 : Int32)), u6, u7, u8, u9, u10] [] Q))) : WP (d + 1) mX12_request 14 [some (.ref v0), some (.int v1), some (.int v2), some (.int v3), some (.int v4), u5, u6, u7, u8, u9, u10] [.int s0] h Q := by
  refine w_if_eq (pc' := 21) dX12_request_14 rfl rfl ⟨fun c => ?_, fun c => ?_⟩
  · replace k := k.1 c
    refine w_iconst dX12_request_21 i1_0 ?_
    refine w_istore (lo' := [some (.ref v0), some (.int v1), some (.int v2), some (.int v3), some (.int v4), some (.int (0 : Int32)), u6, u7, u8, u9, u10]) dX12_request_22 (ltQ rfl) rfl ?_
    refine w_iload_n dX12_request_24 rfl ?_
    refine w_iconst dX12_request_25 i1_1 ?_
    refine w_bipush dX12_request_26 i2_99 ?_
    exact w_stat (as1 := [.int (99 : Int32), .int (1 : Int32), .int v3]) (as2 := [.int v3, .int (1 : Int32), .int (99 : Int32)]) (rest := []) (lo2 := [some (.int v3), some (.int (1 : Int32)), some (.int (99 : Int32))]) dX12_request_28 c_12_154 rfl rfl rfl (Nat.le_of_ble_eq_true rfl) (Nat.le_of_ble_eq_true rfl) rfl (Nat.le_of_ble_eq_true rfl) rfl k
  · replace k := k.2 c
    refine w_iconst dX12_request_17 i1_1 ?_
    refine w_goto (pc' := 22) dX12_request_18 rfl rfl ?_
    refine w_istore (lo' := [some (.ref v0), some (.int v1), some (.int v2), some (.int v3), some (.int v4), some (.int (1 : Int32)), u6, u7, u8, u9, u10]) dX12_request_22 (ltQ rfl) rfl ?_
    refine w_iload_n dX12_request_24 rfl ?_
    refine w_iconst dX12_request_25 i1_1 ?_
    refine w_bipush dX12_request_26 i2_99 ?_
    exact w_stat (as1 := [.int (99 : Int32), .int (1 : Int32), .int v3]) (as2 := [.int v3, .int (1 : Int32), .int (99 : Int32)]) (rest := []) (lo2 := [some (.int v3), some (.int (1 : Int32)), some (.int (99 : Int32))]) dX12_request_28 c_12_154 rfl rfl rfl (Nat.le_of_ble_eq_true rfl) (Nat.le_of_ble_eq_true rfl) rfl (Nat.le_of_ble_eq_true rfl) rfl k
theorem bX12_request_31 {d : Nat} {h : HP} {Q : Out → HP → Prop} {v0 : Nat} {v1 : Int32} {v2 : Int32} {v3 : Int32} {v4 : Int32} {v5 : Int32} {u6 : Option Value} {u7 : Option Value} {u8 : Option Value} {u9 : Option Value} {u10 : Option Value} {s0 : Int32} (k : ((s0 = 0) → WP (d + 1) mX12_request 50 [some (.ref v0), some (.int v1), some (.int v2), some (.int v3), some (.int v4), some (.int v5), u6, u7, u8, u9, u10] [] h Q) ∧ ((¬ (s0 = 0)) → WP d mX12_in 0 [some (.int v4), some (.int (0 : Int32)), some (.int (999 : Int32))] [] h (KK d mX12_request mX12_in 40 [some (.ref v0), some (.int v1), some (.int v2), some (.int v3), some (.int v4), some (.int v5), u6, u7, u8, u9, u10] [] Q))) : WP (d + 1) mX12_request 31 [some (.ref v0), some (.int v1), some (.int v2), some (.int v3), some (.int v4), some (.int v5), u6, u7, u8, u9, u10] [.int s0] h Q := by
  refine w_if_eq (pc' := 50) dX12_request_31 rfl rfl ⟨fun c => ?_, fun c => ?_⟩
  · replace k := k.1 c
    exact k
  · replace k := k.2 c
    refine w_iload dX12_request_34 rfl ?_
    refine w_iconst dX12_request_36 i1_0 ?_
    refine w_sipush dX12_request_37 i3_999 ?_
    exact w_stat (as1 := [.int (999 : Int32), .int (0 : Int32), .int v4]) (as2 := [.int v4, .int (0 : Int32), .int (999 : Int32)]) (rest := []) (lo2 := [some (.int v4), some (.int (0 : Int32)), some (.int (999 : Int32))]) dX12_request_40 c_12_154 rfl rfl rfl (Nat.le_of_ble_eq_true rfl) (Nat.le_of_ble_eq_true rfl) rfl (Nat.le_of_ble_eq_true rfl) rfl k
theorem bX12_request_43 {d : Nat} {h : HP} {Q : Out → HP → Prop} {v0 : Nat} {v1 : Int32} {v2 : Int32} {v3 : Int32} {v4 : Int32} {v5 : Int32} {u6 : Option Value} {u7 : Option Value} {u8 : Option Value} {u9 : Option Value} {u10 : Option Value} {s0 : Int32} (k : ((s0 = 0) → WP d mX12_request 50 [some (.ref v0), some (.int v1), some (.int v2), some (.int v3), some (.int v4), some (.int v5), u6, u7, u8, u9, u10] [] h Q) ∧ ((¬ (s0 = 0)) → WP d mX12_request 51 [some (.ref v0), some (.int v1), some (.int v2), some (.int v3), some (.int v4), some (.int v5), u6, u7, u8, u9, u10] [.int (1 : Int32)] h Q)) : WP d mX12_request 43 [some (.ref v0), some (.int v1), some (.int v2), some (.int v3), some (.int v4), some (.int v5), u6, u7, u8, u9, u10] [.int s0] h Q := by
  refine w_if_eq (pc' := 50) dX12_request_43 rfl rfl ⟨fun c => ?_, fun c => ?_⟩
  · replace k := k.1 c
    exact k
  · replace k := k.2 c
    refine w_iconst dX12_request_46 i1_1 ?_
    refine w_goto (pc' := 51) dX12_request_47 rfl rfl ?_
    exact k
theorem bX12_request_50 {d : Nat} {h : HP} {Q : Out → HP → Prop} {v0 : Nat} {v1 : Int32} {v2 : Int32} {v3 : Int32} {v4 : Int32} {v5 : Int32} {u6 : Option Value} {u7 : Option Value} {u8 : Option Value} {u9 : Option Value} {u10 : Option Value} (k : WP d mX12_request 51 [some (.ref v0), some (.int v1), some (.int v2), some (.int v3), some (.int v4), some (.int v5), u6, u7, u8, u9, u10] [.int (0 : Int32)] h Q) : WP d mX12_request 50 [some (.ref v0), some (.int v1), some (.int v2), some (.int v3), some (.int v4), some (.int v5), u6, u7, u8, u9, u10] [] h Q := by
  refine w_iconst dX12_request_50 i1_0 ?_
  exact k
theorem bX12_request_51 {d : Nat} {h : HP} {Q : Out → HP → Prop} {v0 : Nat} {v1 : Int32} {v2 : Int32} {v3 : Int32} {v4 : Int32} {v5 : Int32} {u6 : Option Value} {u7 : Option Value} {u8 : Option Value} {u9 : Option Value} {u10 : Option Value} {s0 : Int32} (k : ((v5 = 0) → WP (d + 1) mX12_request 72 [some (.ref v0), some (.int v1), some (.int v2), some (.int v3), some (.int v4), some (.int v5), some (.int s0), u7, u8, u9, u10] [] h Q) ∧ ((¬ (v5 = 0)) → ((s0 = 0) → WP (d + 1) mX12_request 72 [some (.ref v0), some (.int v1), some (.int v2), some (.int v3), some (.int v4), some (.int v5), some (.int s0), u7, u8, u9, u10] [] h Q) ∧ ((¬ (s0 = 0)) → (1 < v0) ∧ ((hK h v0 = 12) ∧ (WP d mX12_actOf 0 [some (.ref v0), some (.int v2), some (.int v3), none] [] h (KK d mX12_request mX12_actOf 66 [some (.ref v0), some (.int v1), some (.int v2), some (.int v3), some (.int v4), some (.int v5), some (.int s0), u7, u8, u9, u10] [] Q)))))) : WP (d + 1) mX12_request 51 [some (.ref v0), some (.int v1), some (.int v2), some (.int v3), some (.int v4), some (.int v5), u6, u7, u8, u9, u10] [.int s0] h Q := by
  refine w_istore (lo' := [some (.ref v0), some (.int v1), some (.int v2), some (.int v3), some (.int v4), some (.int v5), some (.int s0), u7, u8, u9, u10]) dX12_request_51 (ltQ rfl) rfl ?_
  refine w_iload dX12_request_53 rfl ?_
  refine w_if_eq (pc' := 72) dX12_request_55 rfl rfl ⟨fun c => ?_, fun c => ?_⟩
  · replace k := k.1 c
    exact k
  · replace k := k.2 c
    refine w_iload dX12_request_58 rfl ?_
    refine w_if_eq (pc' := 72) dX12_request_60 rfl rfl ⟨fun c => ?_, fun c => ?_⟩
    · replace k := k.1 c
      exact k
    · replace k := k.2 c
      refine w_aload_n dX12_request_63 rfl ?_
      refine w_iload_n dX12_request_64 rfl ?_
      refine w_iload_n dX12_request_65 rfl ?_
      obtain ⟨g1, k⟩ := k
      obtain ⟨g2, k⟩ := k
      exact w_virt (as1 := [.int v3, .int v2, .ref v0]) (as2 := [.ref v0, .int v2, .int v3]) (rest := []) (lo2 := [some (.ref v0), some (.int v2), some (.int v3), none]) dX12_request_66 c_12_254 rfl rfl rfl (Nat.le_of_ble_eq_true rfl) (Nat.le_of_ble_eq_true rfl) rfl (Nat.le_of_ble_eq_true rfl) rfl rfl g1 g2 k
theorem bX12_request_69 {d : Nat} {h : HP} {Q : Out → HP → Prop} {v0 : Nat} {v1 : Int32} {v2 : Int32} {v3 : Int32} {v4 : Int32} {v5 : Int32} {v6 : Int32} {u7 : Option Value} {u8 : Option Value} {u9 : Option Value} {u10 : Option Value} {s0 : Int32} (k : WP d mX12_request 73 [some (.ref v0), some (.int v1), some (.int v2), some (.int v3), some (.int v4), some (.int v5), some (.int v6), u7, u8, u9, u10] [.int s0] h Q) : WP d mX12_request 69 [some (.ref v0), some (.int v1), some (.int v2), some (.int v3), some (.int v4), some (.int v5), some (.int v6), u7, u8, u9, u10] [.int s0] h Q := by
  refine w_goto (pc' := 73) dX12_request_69 rfl rfl ?_
  exact k
theorem bX12_request_72 {d : Nat} {h : HP} {Q : Out → HP → Prop} {v0 : Nat} {v1 : Int32} {v2 : Int32} {v3 : Int32} {v4 : Int32} {v5 : Int32} {v6 : Int32} {u7 : Option Value} {u8 : Option Value} {u9 : Option Value} {u10 : Option Value} (k : WP d mX12_request 73 [some (.ref v0), some (.int v1), some (.int v2), some (.int v3), some (.int v4), some (.int v5), some (.int v6), u7, u8, u9, u10] [.int (-1 : Int32)] h Q) : WP d mX12_request 72 [some (.ref v0), some (.int v1), some (.int v2), some (.int v3), some (.int v4), some (.int v5), some (.int v6), u7, u8, u9, u10] [] h Q := by
  refine w_iconst dX12_request_72 i1_m1 ?_
  exact k
theorem bX12_request_73 {d : Nat} {h : HP} {Q : Out → HP → Prop} {v0 : Nat} {v1 : Int32} {v2 : Int32} {v3 : Int32} {v4 : Int32} {v5 : Int32} {v6 : Int32} {u7 : Option Value} {u8 : Option Value} {u9 : Option Value} {u10 : Option Value} {s0 : Int32} (k : ((v6 = 0) → WP d mX12_request 102 [some (.ref v0), some (.int v1), some (.int v2), some (.int v3), some (.int v4), some (.int v5), some (.int v6), some (.int s0), u8, u9, u10] [] h Q) ∧ ((¬ (v6 = 0)) → ((s0 = (-1 : Int32)) → WP d mX12_request 98 [some (.ref v0), some (.int v1), some (.int v2), some (.int v3), some (.int v4), some (.int v5), some (.int v6), some (.int s0), u8, u9, u10] [] h Q) ∧ ((¬ (s0 = (-1 : Int32))) → (hK h v0 = 12) ∧ ((hK h (hR h 1244 v0) = 20) ∧ ((inA h (hR h 1244 v0) s0 = true) ∧ (((¬ (hAI h (hR h 1244 v0) (s0).toNatClampNeg) = v4) → WP d mX12_request 102 [some (.ref v0), some (.int v1), some (.int v2), some (.int v3), some (.int v4), some (.int v5), some (.int v6), some (.int s0), u8, u9, u10] [] h Q) ∧ ((¬ (¬ (hAI h (hR h 1244 v0) (s0).toNatClampNeg) = v4)) → WP d mX12_request 98 [some (.ref v0), some (.int v1), some (.int v2), some (.int v3), some (.int v4), some (.int v5), some (.int v6), some (.int s0), u8, u9, u10] [] h Q))))))) : WP d mX12_request 73 [some (.ref v0), some (.int v1), some (.int v2), some (.int v3), some (.int v4), some (.int v5), some (.int v6), u7, u8, u9, u10] [.int s0] h Q := by
  refine w_istore (lo' := [some (.ref v0), some (.int v1), some (.int v2), some (.int v3), some (.int v4), some (.int v5), some (.int v6), some (.int s0), u8, u9, u10]) dX12_request_73 (ltQ rfl) rfl ?_
  refine w_iload dX12_request_75 rfl ?_
  refine w_if_eq (pc' := 102) dX12_request_77 rfl rfl ⟨fun c => ?_, fun c => ?_⟩
  · replace k := k.1 c
    exact k
  · replace k := k.2 c
    refine w_iload dX12_request_80 rfl ?_
    refine w_iconst dX12_request_82 i1_m1 ?_
    refine w_ic_eq (pc' := 98) dX12_request_83 rfl rfl ⟨fun c => ?_, fun c => ?_⟩
    · replace k := k.1 c
      exact k
    · replace k := k.2 c
      refine w_aload_n dX12_request_86 rfl ?_
      obtain ⟨g1, k⟩ := k
      refine w_getR dX12_request_87 f_12_132 t_12_44 g1 ?_
      refine w_iload dX12_request_90 rfl ?_
      obtain ⟨g2, k⟩ := k
      obtain ⟨g3, k⟩ := k
      refine w_iaload dX12_request_92 g2 g3 ?_
      refine w_iload dX12_request_93 rfl ?_
      refine w_ic_ne (pc' := 102) dX12_request_95 rfl rfl ⟨fun c => ?_, fun c => ?_⟩
      · replace k := k.1 c
        exact k
      · replace k := k.2 c
        exact k
theorem bX12_request_98 {d : Nat} {h : HP} {Q : Out → HP → Prop} {v0 : Nat} {v1 : Int32} {v2 : Int32} {v3 : Int32} {v4 : Int32} {v5 : Int32} {v6 : Int32} {v7 : Int32} {u8 : Option Value} {u9 : Option Value} {u10 : Option Value} (k : ((v5 = 0) → (1 < v0) ∧ ((hK h v0 = 12) ∧ (WP d mX12_goes 0 [some (.ref v0), some (.int v5), some (.int (1 : Int32)), some (.int (0 : Int32))] [] h (KK d mX12_request mX12_goes 169 [some (.ref v0), some (.int v1), some (.int v2), some (.int v3), some (.int v4), some (.int v5), some (.int (1 : Int32)), some (.int v7), some (.int (0 : Int32)), u9, u10] [] Q)))) ∧ ((¬ (v5 = 0)) → (hK h v0 = 12) ∧ ((hK h (hR h 1205 v0) = 21) ∧ ((inA h (hR h 1205 v0) v1 = true) ∧ ((((hAI h (hR h 1205 v0) (v1).toNatClampNeg) = 0) → (1 < v0) ∧ (WP d mX12_goes 0 [some (.ref v0), some (.int v5), some (.int (1 : Int32)), some (.int (0 : Int32))] [] h (KK d mX12_request mX12_goes 169 [some (.ref v0), some (.int v1), some (.int v2), some (.int v3), some (.int v4), some (.int v5), some (.int (1 : Int32)), some (.int v7), some (.int (0 : Int32)), u9, u10] [] Q))) ∧ ((¬ ((hAI h (hR h 1205 v0) (v1).toNatClampNeg) = 0)) → (hK h (hR h 1211 v0) = 20) ∧ ((inA h (hR h 1211 v0) v1 = true) ∧ (((¬ (hAI h (hR h 1211 v0) (v1).toNatClampNeg) = (2 : Int32)) → (1 < v0) ∧ (WP d mX12_goes 0 [some (.ref v0), some (.int v5), some (.int (1 : Int32)), some (.int (0 : Int32))] [] h (KK d mX12_request mX12_goes 169 [some (.ref v0), some (.int v1), some (.int v2), some (.int v3), some (.int v4), some (.int v5), some (.int (1 : Int32)), some (.int v7), some (.int (0 : Int32)), u9, u10] [] Q))) ∧ ((¬ (¬ (hAI h (hR h 1211 v0) (v1).toNatClampNeg) = (2 : Int32))) → (hK h (hR h 1212 v0) = 20) ∧ ((inA h (hR h 1212 v0) v1 = true) ∧ ((((30 : Int32) ≤ (hAI h (hR h 1212 v0) (v1).toNatClampNeg)) → (1 < v0) ∧ (WP d mX12_goes 0 [some (.ref v0), some (.int v5), some (.int (1 : Int32)), some (.int (0 : Int32))] [] h (KK d mX12_request mX12_goes 169 [some (.ref v0), some (.int v1), some (.int v2), some (.int v3), some (.int v4), some (.int v5), some (.int (1 : Int32)), some (.int v7), some (.int (0 : Int32)), u9, u10] [] Q))) ∧ ((¬ ((30 : Int32) ≤ (hAI h (hR h 1212 v0) (v1).toNatClampNeg))) → ((¬ v7 = (-1 : Int32)) → (1 < v0) ∧ (WP d mX12_goes 0 [some (.ref v0), some (.int v5), some (.int (1 : Int32)), some (.int (1 : Int32))] [] h (KK d mX12_request mX12_goes 169 [some (.ref v0), some (.int v1), some (.int v2), some (.int v3), some (.int v4), some (.int v5), some (.int (1 : Int32)), some (.int v7), some (.int (1 : Int32)), u9, u10] [] Q))) ∧ ((¬ (¬ v7 = (-1 : Int32))) → (((14 : Int32) ≤ (hI h 1247 v0)) → (1 < v0) ∧ (WP d mX12_goes 0 [some (.ref v0), some (.int v5), some (.int (1 : Int32)), some (.int (0 : Int32))] [] h (KK d mX12_request mX12_goes 169 [some (.ref v0), some (.int v1), some (.int v2), some (.int v3), some (.int v4), some (.int v5), some (.int (1 : Int32)), some (.int v7), some (.int (0 : Int32)), u9, u10] [] Q))) ∧ ((¬ ((14 : Int32) ≤ (hI h 1247 v0))) → (1 < v0) ∧ (WP d mX12_goes 0 [some (.ref v0), some (.int v5), some (.int (1 : Int32)), some (.int (1 : Int32))] [] h (KK d mX12_request mX12_goes 169 [some (.ref v0), some (.int v1), some (.int v2), some (.int v3), some (.int v4), some (.int v5), some (.int (1 : Int32)), some (.int v7), some (.int (1 : Int32)), u9, u10] [] Q)))))))))))))))) : WP (d + 1) mX12_request 98 [some (.ref v0), some (.int v1), some (.int v2), some (.int v3), some (.int v4), some (.int v5), some (.int v6), some (.int v7), u8, u9, u10] [] h Q := by
  refine w_iconst dX12_request_98 i1_1 ?_
  refine w_goto (pc' := 103) dX12_request_99 rfl rfl ?_
  refine w_istore (lo' := [some (.ref v0), some (.int v1), some (.int v2), some (.int v3), some (.int v4), some (.int v5), some (.int (1 : Int32)), some (.int v7), u8, u9, u10]) dX12_request_103 (ltQ rfl) rfl ?_
  refine w_iload dX12_request_105 rfl ?_
  refine w_if_eq (pc' := 159) dX12_request_107 rfl rfl ⟨fun c => ?_, fun c => ?_⟩
  · replace k := k.1 c
    refine w_iconst dX12_request_159 i1_0 ?_
    refine w_istore (lo' := [some (.ref v0), some (.int v1), some (.int v2), some (.int v3), some (.int v4), some (.int v5), some (.int (1 : Int32)), some (.int v7), some (.int (0 : Int32)), u9, u10]) dX12_request_160 (ltQ rfl) rfl ?_
    refine w_aload_n dX12_request_162 rfl ?_
    refine w_iload dX12_request_163 rfl ?_
    refine w_iload dX12_request_165 rfl ?_
    refine w_iload dX12_request_167 rfl ?_
    obtain ⟨g1, k⟩ := k
    obtain ⟨g2, k⟩ := k
    exact w_virt (as1 := [.int (0 : Int32), .int (1 : Int32), .int v5, .ref v0]) (as2 := [.ref v0, .int v5, .int (1 : Int32), .int (0 : Int32)]) (rest := []) (lo2 := [some (.ref v0), some (.int v5), some (.int (1 : Int32)), some (.int (0 : Int32))]) dX12_request_169 c_12_173 rfl rfl rfl (Nat.le_of_ble_eq_true rfl) (Nat.le_of_ble_eq_true rfl) rfl (Nat.le_of_ble_eq_true rfl) rfl rfl g1 g2 k
  · replace k := k.2 c
    refine w_aload_n dX12_request_110 rfl ?_
    obtain ⟨g3, k⟩ := k
    refine w_getR dX12_request_111 f_12_18 t_12_5 g3 ?_
    refine w_iload_n dX12_request_114 rfl ?_
    obtain ⟨g4, k⟩ := k
    obtain ⟨g5, k⟩ := k
    refine w_baload dX12_request_115 g4 g5 ?_
    refine w_if_eq (pc' := 159) dX12_request_116 rfl rfl ⟨fun c => ?_, fun c => ?_⟩
    · replace k := k.1 c
      refine w_iconst dX12_request_159 i1_0 ?_
      refine w_istore (lo' := [some (.ref v0), some (.int v1), some (.int v2), some (.int v3), some (.int v4), some (.int v5), some (.int (1 : Int32)), some (.int v7), some (.int (0 : Int32)), u9, u10]) dX12_request_160 (ltQ rfl) rfl ?_
      refine w_aload_n dX12_request_162 rfl ?_
      refine w_iload dX12_request_163 rfl ?_
      refine w_iload dX12_request_165 rfl ?_
      refine w_iload dX12_request_167 rfl ?_
      obtain ⟨g6, k⟩ := k
      exact w_virt (as1 := [.int (0 : Int32), .int (1 : Int32), .int v5, .ref v0]) (as2 := [.ref v0, .int v5, .int (1 : Int32), .int (0 : Int32)]) (rest := []) (lo2 := [some (.ref v0), some (.int v5), some (.int (1 : Int32)), some (.int (0 : Int32))]) dX12_request_169 c_12_173 rfl rfl rfl (Nat.le_of_ble_eq_true rfl) (Nat.le_of_ble_eq_true rfl) rfl (Nat.le_of_ble_eq_true rfl) rfl rfl g6 g3 k
    · replace k := k.2 c
      refine w_aload_n dX12_request_119 rfl ?_
      refine w_getR dX12_request_120 f_12_39 t_12_11 g3 ?_
      refine w_iload_n dX12_request_123 rfl ?_
      obtain ⟨g7, k⟩ := k
      obtain ⟨g8, k⟩ := k
      refine w_iaload dX12_request_124 g7 g8 ?_
      refine w_iconst dX12_request_125 i1_2 ?_
      refine w_ic_ne (pc' := 159) dX12_request_126 rfl rfl ⟨fun c => ?_, fun c => ?_⟩
      · replace k := k.1 c
        refine w_iconst dX12_request_159 i1_0 ?_
        refine w_istore (lo' := [some (.ref v0), some (.int v1), some (.int v2), some (.int v3), some (.int v4), some (.int v5), some (.int (1 : Int32)), some (.int v7), some (.int (0 : Int32)), u9, u10]) dX12_request_160 (ltQ rfl) rfl ?_
        refine w_aload_n dX12_request_162 rfl ?_
        refine w_iload dX12_request_163 rfl ?_
        refine w_iload dX12_request_165 rfl ?_
        refine w_iload dX12_request_167 rfl ?_
        obtain ⟨g9, k⟩ := k
        exact w_virt (as1 := [.int (0 : Int32), .int (1 : Int32), .int v5, .ref v0]) (as2 := [.ref v0, .int v5, .int (1 : Int32), .int (0 : Int32)]) (rest := []) (lo2 := [some (.ref v0), some (.int v5), some (.int (1 : Int32)), some (.int (0 : Int32))]) dX12_request_169 c_12_173 rfl rfl rfl (Nat.le_of_ble_eq_true rfl) (Nat.le_of_ble_eq_true rfl) rfl (Nat.le_of_ble_eq_true rfl) rfl rfl g9 g3 k
      · replace k := k.2 c
        refine w_aload_n dX12_request_129 rfl ?_
        refine w_getR dX12_request_130 f_12_42 t_12_12 g3 ?_
        refine w_iload_n dX12_request_133 rfl ?_
        obtain ⟨g10, k⟩ := k
        obtain ⟨g11, k⟩ := k
        refine w_iaload dX12_request_134 g10 g11 ?_
        refine w_bipush dX12_request_135 i2_30 ?_
        refine w_ic_ge (pc' := 159) dX12_request_137 rfl rfl ⟨fun c => ?_, fun c => ?_⟩
        · replace k := k.1 c
          refine w_iconst dX12_request_159 i1_0 ?_
          refine w_istore (lo' := [some (.ref v0), some (.int v1), some (.int v2), some (.int v3), some (.int v4), some (.int v5), some (.int (1 : Int32)), some (.int v7), some (.int (0 : Int32)), u9, u10]) dX12_request_160 (ltQ rfl) rfl ?_
          refine w_aload_n dX12_request_162 rfl ?_
          refine w_iload dX12_request_163 rfl ?_
          refine w_iload dX12_request_165 rfl ?_
          refine w_iload dX12_request_167 rfl ?_
          obtain ⟨g12, k⟩ := k
          exact w_virt (as1 := [.int (0 : Int32), .int (1 : Int32), .int v5, .ref v0]) (as2 := [.ref v0, .int v5, .int (1 : Int32), .int (0 : Int32)]) (rest := []) (lo2 := [some (.ref v0), some (.int v5), some (.int (1 : Int32)), some (.int (0 : Int32))]) dX12_request_169 c_12_173 rfl rfl rfl (Nat.le_of_ble_eq_true rfl) (Nat.le_of_ble_eq_true rfl) rfl (Nat.le_of_ble_eq_true rfl) rfl rfl g12 g3 k
        · replace k := k.2 c
          refine w_iload dX12_request_140 rfl ?_
          refine w_iconst dX12_request_142 i1_m1 ?_
          refine w_ic_ne (pc' := 155) dX12_request_143 rfl rfl ⟨fun c => ?_, fun c => ?_⟩
          · replace k := k.1 c
            refine w_iconst dX12_request_155 i1_1 ?_
            refine w_goto (pc' := 160) dX12_request_156 rfl rfl ?_
            refine w_istore (lo' := [some (.ref v0), some (.int v1), some (.int v2), some (.int v3), some (.int v4), some (.int v5), some (.int (1 : Int32)), some (.int v7), some (.int (1 : Int32)), u9, u10]) dX12_request_160 (ltQ rfl) rfl ?_
            refine w_aload_n dX12_request_162 rfl ?_
            refine w_iload dX12_request_163 rfl ?_
            refine w_iload dX12_request_165 rfl ?_
            refine w_iload dX12_request_167 rfl ?_
            obtain ⟨g13, k⟩ := k
            exact w_virt (as1 := [.int (1 : Int32), .int (1 : Int32), .int v5, .ref v0]) (as2 := [.ref v0, .int v5, .int (1 : Int32), .int (1 : Int32)]) (rest := []) (lo2 := [some (.ref v0), some (.int v5), some (.int (1 : Int32)), some (.int (1 : Int32))]) dX12_request_169 c_12_173 rfl rfl rfl (Nat.le_of_ble_eq_true rfl) (Nat.le_of_ble_eq_true rfl) rfl (Nat.le_of_ble_eq_true rfl) rfl rfl g13 g3 k
          · replace k := k.2 c
            refine w_aload_n dX12_request_146 rfl ?_
            refine w_getI dX12_request_147 f_12_170 t_12_47 g3 ?_
            refine w_bipush dX12_request_150 i2_14 ?_
            refine w_ic_ge (pc' := 159) dX12_request_152 rfl rfl ⟨fun c => ?_, fun c => ?_⟩
            · replace k := k.1 c
              refine w_iconst dX12_request_159 i1_0 ?_
              refine w_istore (lo' := [some (.ref v0), some (.int v1), some (.int v2), some (.int v3), some (.int v4), some (.int v5), some (.int (1 : Int32)), some (.int v7), some (.int (0 : Int32)), u9, u10]) dX12_request_160 (ltQ rfl) rfl ?_
              refine w_aload_n dX12_request_162 rfl ?_
              refine w_iload dX12_request_163 rfl ?_
              refine w_iload dX12_request_165 rfl ?_
              refine w_iload dX12_request_167 rfl ?_
              obtain ⟨g14, k⟩ := k
              exact w_virt (as1 := [.int (0 : Int32), .int (1 : Int32), .int v5, .ref v0]) (as2 := [.ref v0, .int v5, .int (1 : Int32), .int (0 : Int32)]) (rest := []) (lo2 := [some (.ref v0), some (.int v5), some (.int (1 : Int32)), some (.int (0 : Int32))]) dX12_request_169 c_12_173 rfl rfl rfl (Nat.le_of_ble_eq_true rfl) (Nat.le_of_ble_eq_true rfl) rfl (Nat.le_of_ble_eq_true rfl) rfl rfl g14 g3 k
            · replace k := k.2 c
              refine w_iconst dX12_request_155 i1_1 ?_
              refine w_goto (pc' := 160) dX12_request_156 rfl rfl ?_
              refine w_istore (lo' := [some (.ref v0), some (.int v1), some (.int v2), some (.int v3), some (.int v4), some (.int v5), some (.int (1 : Int32)), some (.int v7), some (.int (1 : Int32)), u9, u10]) dX12_request_160 (ltQ rfl) rfl ?_
              refine w_aload_n dX12_request_162 rfl ?_
              refine w_iload dX12_request_163 rfl ?_
              refine w_iload dX12_request_165 rfl ?_
              refine w_iload dX12_request_167 rfl ?_
              obtain ⟨g15, k⟩ := k
              exact w_virt (as1 := [.int (1 : Int32), .int (1 : Int32), .int v5, .ref v0]) (as2 := [.ref v0, .int v5, .int (1 : Int32), .int (1 : Int32)]) (rest := []) (lo2 := [some (.ref v0), some (.int v5), some (.int (1 : Int32)), some (.int (1 : Int32))]) dX12_request_169 c_12_173 rfl rfl rfl (Nat.le_of_ble_eq_true rfl) (Nat.le_of_ble_eq_true rfl) rfl (Nat.le_of_ble_eq_true rfl) rfl rfl g15 g3 k
theorem bX12_request_102 {d : Nat} {h : HP} {Q : Out → HP → Prop} {v0 : Nat} {v1 : Int32} {v2 : Int32} {v3 : Int32} {v4 : Int32} {v5 : Int32} {v6 : Int32} {v7 : Int32} {u8 : Option Value} {u9 : Option Value} {u10 : Option Value} (k : ((v5 = 0) → (1 < v0) ∧ ((hK h v0 = 12) ∧ (WP d mX12_goes 0 [some (.ref v0), some (.int v5), some (.int (0 : Int32)), some (.int (0 : Int32))] [] h (KK d mX12_request mX12_goes 169 [some (.ref v0), some (.int v1), some (.int v2), some (.int v3), some (.int v4), some (.int v5), some (.int (0 : Int32)), some (.int v7), some (.int (0 : Int32)), u9, u10] [] Q)))) ∧ ((¬ (v5 = 0)) → (hK h v0 = 12) ∧ ((hK h (hR h 1205 v0) = 21) ∧ ((inA h (hR h 1205 v0) v1 = true) ∧ ((((hAI h (hR h 1205 v0) (v1).toNatClampNeg) = 0) → (1 < v0) ∧ (WP d mX12_goes 0 [some (.ref v0), some (.int v5), some (.int (0 : Int32)), some (.int (0 : Int32))] [] h (KK d mX12_request mX12_goes 169 [some (.ref v0), some (.int v1), some (.int v2), some (.int v3), some (.int v4), some (.int v5), some (.int (0 : Int32)), some (.int v7), some (.int (0 : Int32)), u9, u10] [] Q))) ∧ ((¬ ((hAI h (hR h 1205 v0) (v1).toNatClampNeg) = 0)) → (hK h (hR h 1211 v0) = 20) ∧ ((inA h (hR h 1211 v0) v1 = true) ∧ (((¬ (hAI h (hR h 1211 v0) (v1).toNatClampNeg) = (2 : Int32)) → (1 < v0) ∧ (WP d mX12_goes 0 [some (.ref v0), some (.int v5), some (.int (0 : Int32)), some (.int (0 : Int32))] [] h (KK d mX12_request mX12_goes 169 [some (.ref v0), some (.int v1), some (.int v2), some (.int v3), some (.int v4), some (.int v5), some (.int (0 : Int32)), some (.int v7), some (.int (0 : Int32)), u9, u10] [] Q))) ∧ ((¬ (¬ (hAI h (hR h 1211 v0) (v1).toNatClampNeg) = (2 : Int32))) → (hK h (hR h 1212 v0) = 20) ∧ ((inA h (hR h 1212 v0) v1 = true) ∧ ((((30 : Int32) ≤ (hAI h (hR h 1212 v0) (v1).toNatClampNeg)) → (1 < v0) ∧ (WP d mX12_goes 0 [some (.ref v0), some (.int v5), some (.int (0 : Int32)), some (.int (0 : Int32))] [] h (KK d mX12_request mX12_goes 169 [some (.ref v0), some (.int v1), some (.int v2), some (.int v3), some (.int v4), some (.int v5), some (.int (0 : Int32)), some (.int v7), some (.int (0 : Int32)), u9, u10] [] Q))) ∧ ((¬ ((30 : Int32) ≤ (hAI h (hR h 1212 v0) (v1).toNatClampNeg))) → ((¬ v7 = (-1 : Int32)) → (1 < v0) ∧ (WP d mX12_goes 0 [some (.ref v0), some (.int v5), some (.int (0 : Int32)), some (.int (1 : Int32))] [] h (KK d mX12_request mX12_goes 169 [some (.ref v0), some (.int v1), some (.int v2), some (.int v3), some (.int v4), some (.int v5), some (.int (0 : Int32)), some (.int v7), some (.int (1 : Int32)), u9, u10] [] Q))) ∧ ((¬ (¬ v7 = (-1 : Int32))) → (((14 : Int32) ≤ (hI h 1247 v0)) → (1 < v0) ∧ (WP d mX12_goes 0 [some (.ref v0), some (.int v5), some (.int (0 : Int32)), some (.int (0 : Int32))] [] h (KK d mX12_request mX12_goes 169 [some (.ref v0), some (.int v1), some (.int v2), some (.int v3), some (.int v4), some (.int v5), some (.int (0 : Int32)), some (.int v7), some (.int (0 : Int32)), u9, u10] [] Q))) ∧ ((¬ ((14 : Int32) ≤ (hI h 1247 v0))) → (1 < v0) ∧ (WP d mX12_goes 0 [some (.ref v0), some (.int v5), some (.int (0 : Int32)), some (.int (1 : Int32))] [] h (KK d mX12_request mX12_goes 169 [some (.ref v0), some (.int v1), some (.int v2), some (.int v3), some (.int v4), some (.int v5), some (.int (0 : Int32)), some (.int v7), some (.int (1 : Int32)), u9, u10] [] Q)))))))))))))))) : WP (d + 1) mX12_request 102 [some (.ref v0), some (.int v1), some (.int v2), some (.int v3), some (.int v4), some (.int v5), some (.int v6), some (.int v7), u8, u9, u10] [] h Q := by
  refine w_iconst dX12_request_102 i1_0 ?_
  refine w_istore (lo' := [some (.ref v0), some (.int v1), some (.int v2), some (.int v3), some (.int v4), some (.int v5), some (.int (0 : Int32)), some (.int v7), u8, u9, u10]) dX12_request_103 (ltQ rfl) rfl ?_
  refine w_iload dX12_request_105 rfl ?_
  refine w_if_eq (pc' := 159) dX12_request_107 rfl rfl ⟨fun c => ?_, fun c => ?_⟩
  · replace k := k.1 c
    refine w_iconst dX12_request_159 i1_0 ?_
    refine w_istore (lo' := [some (.ref v0), some (.int v1), some (.int v2), some (.int v3), some (.int v4), some (.int v5), some (.int (0 : Int32)), some (.int v7), some (.int (0 : Int32)), u9, u10]) dX12_request_160 (ltQ rfl) rfl ?_
    refine w_aload_n dX12_request_162 rfl ?_
    refine w_iload dX12_request_163 rfl ?_
    refine w_iload dX12_request_165 rfl ?_
    refine w_iload dX12_request_167 rfl ?_
    obtain ⟨g1, k⟩ := k
    obtain ⟨g2, k⟩ := k
    exact w_virt (as1 := [.int (0 : Int32), .int (0 : Int32), .int v5, .ref v0]) (as2 := [.ref v0, .int v5, .int (0 : Int32), .int (0 : Int32)]) (rest := []) (lo2 := [some (.ref v0), some (.int v5), some (.int (0 : Int32)), some (.int (0 : Int32))]) dX12_request_169 c_12_173 rfl rfl rfl (Nat.le_of_ble_eq_true rfl) (Nat.le_of_ble_eq_true rfl) rfl (Nat.le_of_ble_eq_true rfl) rfl rfl g1 g2 k
  · replace k := k.2 c
    refine w_aload_n dX12_request_110 rfl ?_
    obtain ⟨g3, k⟩ := k
    refine w_getR dX12_request_111 f_12_18 t_12_5 g3 ?_
    refine w_iload_n dX12_request_114 rfl ?_
    obtain ⟨g4, k⟩ := k
    obtain ⟨g5, k⟩ := k
    refine w_baload dX12_request_115 g4 g5 ?_
    refine w_if_eq (pc' := 159) dX12_request_116 rfl rfl ⟨fun c => ?_, fun c => ?_⟩
    · replace k := k.1 c
      refine w_iconst dX12_request_159 i1_0 ?_
      refine w_istore (lo' := [some (.ref v0), some (.int v1), some (.int v2), some (.int v3), some (.int v4), some (.int v5), some (.int (0 : Int32)), some (.int v7), some (.int (0 : Int32)), u9, u10]) dX12_request_160 (ltQ rfl) rfl ?_
      refine w_aload_n dX12_request_162 rfl ?_
      refine w_iload dX12_request_163 rfl ?_
      refine w_iload dX12_request_165 rfl ?_
      refine w_iload dX12_request_167 rfl ?_
      obtain ⟨g6, k⟩ := k
      exact w_virt (as1 := [.int (0 : Int32), .int (0 : Int32), .int v5, .ref v0]) (as2 := [.ref v0, .int v5, .int (0 : Int32), .int (0 : Int32)]) (rest := []) (lo2 := [some (.ref v0), some (.int v5), some (.int (0 : Int32)), some (.int (0 : Int32))]) dX12_request_169 c_12_173 rfl rfl rfl (Nat.le_of_ble_eq_true rfl) (Nat.le_of_ble_eq_true rfl) rfl (Nat.le_of_ble_eq_true rfl) rfl rfl g6 g3 k
    · replace k := k.2 c
      refine w_aload_n dX12_request_119 rfl ?_
      refine w_getR dX12_request_120 f_12_39 t_12_11 g3 ?_
      refine w_iload_n dX12_request_123 rfl ?_
      obtain ⟨g7, k⟩ := k
      obtain ⟨g8, k⟩ := k
      refine w_iaload dX12_request_124 g7 g8 ?_
      refine w_iconst dX12_request_125 i1_2 ?_
      refine w_ic_ne (pc' := 159) dX12_request_126 rfl rfl ⟨fun c => ?_, fun c => ?_⟩
      · replace k := k.1 c
        refine w_iconst dX12_request_159 i1_0 ?_
        refine w_istore (lo' := [some (.ref v0), some (.int v1), some (.int v2), some (.int v3), some (.int v4), some (.int v5), some (.int (0 : Int32)), some (.int v7), some (.int (0 : Int32)), u9, u10]) dX12_request_160 (ltQ rfl) rfl ?_
        refine w_aload_n dX12_request_162 rfl ?_
        refine w_iload dX12_request_163 rfl ?_
        refine w_iload dX12_request_165 rfl ?_
        refine w_iload dX12_request_167 rfl ?_
        obtain ⟨g9, k⟩ := k
        exact w_virt (as1 := [.int (0 : Int32), .int (0 : Int32), .int v5, .ref v0]) (as2 := [.ref v0, .int v5, .int (0 : Int32), .int (0 : Int32)]) (rest := []) (lo2 := [some (.ref v0), some (.int v5), some (.int (0 : Int32)), some (.int (0 : Int32))]) dX12_request_169 c_12_173 rfl rfl rfl (Nat.le_of_ble_eq_true rfl) (Nat.le_of_ble_eq_true rfl) rfl (Nat.le_of_ble_eq_true rfl) rfl rfl g9 g3 k
      · replace k := k.2 c
        refine w_aload_n dX12_request_129 rfl ?_
        refine w_getR dX12_request_130 f_12_42 t_12_12 g3 ?_
        refine w_iload_n dX12_request_133 rfl ?_
        obtain ⟨g10, k⟩ := k
        obtain ⟨g11, k⟩ := k
        refine w_iaload dX12_request_134 g10 g11 ?_
        refine w_bipush dX12_request_135 i2_30 ?_
        refine w_ic_ge (pc' := 159) dX12_request_137 rfl rfl ⟨fun c => ?_, fun c => ?_⟩
        · replace k := k.1 c
          refine w_iconst dX12_request_159 i1_0 ?_
          refine w_istore (lo' := [some (.ref v0), some (.int v1), some (.int v2), some (.int v3), some (.int v4), some (.int v5), some (.int (0 : Int32)), some (.int v7), some (.int (0 : Int32)), u9, u10]) dX12_request_160 (ltQ rfl) rfl ?_
          refine w_aload_n dX12_request_162 rfl ?_
          refine w_iload dX12_request_163 rfl ?_
          refine w_iload dX12_request_165 rfl ?_
          refine w_iload dX12_request_167 rfl ?_
          obtain ⟨g12, k⟩ := k
          exact w_virt (as1 := [.int (0 : Int32), .int (0 : Int32), .int v5, .ref v0]) (as2 := [.ref v0, .int v5, .int (0 : Int32), .int (0 : Int32)]) (rest := []) (lo2 := [some (.ref v0), some (.int v5), some (.int (0 : Int32)), some (.int (0 : Int32))]) dX12_request_169 c_12_173 rfl rfl rfl (Nat.le_of_ble_eq_true rfl) (Nat.le_of_ble_eq_true rfl) rfl (Nat.le_of_ble_eq_true rfl) rfl rfl g12 g3 k
        · replace k := k.2 c
          refine w_iload dX12_request_140 rfl ?_
          refine w_iconst dX12_request_142 i1_m1 ?_
          refine w_ic_ne (pc' := 155) dX12_request_143 rfl rfl ⟨fun c => ?_, fun c => ?_⟩
          · replace k := k.1 c
            refine w_iconst dX12_request_155 i1_1 ?_
            refine w_goto (pc' := 160) dX12_request_156 rfl rfl ?_
            refine w_istore (lo' := [some (.ref v0), some (.int v1), some (.int v2), some (.int v3), some (.int v4), some (.int v5), some (.int (0 : Int32)), some (.int v7), some (.int (1 : Int32)), u9, u10]) dX12_request_160 (ltQ rfl) rfl ?_
            refine w_aload_n dX12_request_162 rfl ?_
            refine w_iload dX12_request_163 rfl ?_
            refine w_iload dX12_request_165 rfl ?_
            refine w_iload dX12_request_167 rfl ?_
            obtain ⟨g13, k⟩ := k
            exact w_virt (as1 := [.int (1 : Int32), .int (0 : Int32), .int v5, .ref v0]) (as2 := [.ref v0, .int v5, .int (0 : Int32), .int (1 : Int32)]) (rest := []) (lo2 := [some (.ref v0), some (.int v5), some (.int (0 : Int32)), some (.int (1 : Int32))]) dX12_request_169 c_12_173 rfl rfl rfl (Nat.le_of_ble_eq_true rfl) (Nat.le_of_ble_eq_true rfl) rfl (Nat.le_of_ble_eq_true rfl) rfl rfl g13 g3 k
          · replace k := k.2 c
            refine w_aload_n dX12_request_146 rfl ?_
            refine w_getI dX12_request_147 f_12_170 t_12_47 g3 ?_
            refine w_bipush dX12_request_150 i2_14 ?_
            refine w_ic_ge (pc' := 159) dX12_request_152 rfl rfl ⟨fun c => ?_, fun c => ?_⟩
            · replace k := k.1 c
              refine w_iconst dX12_request_159 i1_0 ?_
              refine w_istore (lo' := [some (.ref v0), some (.int v1), some (.int v2), some (.int v3), some (.int v4), some (.int v5), some (.int (0 : Int32)), some (.int v7), some (.int (0 : Int32)), u9, u10]) dX12_request_160 (ltQ rfl) rfl ?_
              refine w_aload_n dX12_request_162 rfl ?_
              refine w_iload dX12_request_163 rfl ?_
              refine w_iload dX12_request_165 rfl ?_
              refine w_iload dX12_request_167 rfl ?_
              obtain ⟨g14, k⟩ := k
              exact w_virt (as1 := [.int (0 : Int32), .int (0 : Int32), .int v5, .ref v0]) (as2 := [.ref v0, .int v5, .int (0 : Int32), .int (0 : Int32)]) (rest := []) (lo2 := [some (.ref v0), some (.int v5), some (.int (0 : Int32)), some (.int (0 : Int32))]) dX12_request_169 c_12_173 rfl rfl rfl (Nat.le_of_ble_eq_true rfl) (Nat.le_of_ble_eq_true rfl) rfl (Nat.le_of_ble_eq_true rfl) rfl rfl g14 g3 k
            · replace k := k.2 c
              refine w_iconst dX12_request_155 i1_1 ?_
              refine w_goto (pc' := 160) dX12_request_156 rfl rfl ?_
              refine w_istore (lo' := [some (.ref v0), some (.int v1), some (.int v2), some (.int v3), some (.int v4), some (.int v5), some (.int (0 : Int32)), some (.int v7), some (.int (1 : Int32)), u9, u10]) dX12_request_160 (ltQ rfl) rfl ?_
              refine w_aload_n dX12_request_162 rfl ?_
              refine w_iload dX12_request_163 rfl ?_
              refine w_iload dX12_request_165 rfl ?_
              refine w_iload dX12_request_167 rfl ?_
              obtain ⟨g15, k⟩ := k
              exact w_virt (as1 := [.int (1 : Int32), .int (0 : Int32), .int v5, .ref v0]) (as2 := [.ref v0, .int v5, .int (0 : Int32), .int (1 : Int32)]) (rest := []) (lo2 := [some (.ref v0), some (.int v5), some (.int (0 : Int32)), some (.int (1 : Int32))]) dX12_request_169 c_12_173 rfl rfl rfl (Nat.le_of_ble_eq_true rfl) (Nat.le_of_ble_eq_true rfl) rfl (Nat.le_of_ble_eq_true rfl) rfl rfl g15 g3 k
theorem bX12_request_172 {d : Nat} {h : HP} {Q : Out → HP → Prop} {v0 : Nat} {v1 : Int32} {v2 : Int32} {v3 : Int32} {v4 : Int32} {v5 : Int32} {v6 : Int32} {v7 : Int32} {v8 : Int32} {u9 : Option Value} {u10 : Option Value} {s0 : Int32} (k : ((¬ s0 = 0) → (hK h v0 = 12) ∧ (((¬ v7 = (-1 : Int32)) → WP (d + 1) mX12_request 206 [some (.ref v0), some (.int v1), some (.int v2), some (.int v3), some (.int v4), some (.int v5), some (.int v6), some (.int v7), some (.int v8), some (.int v1), u10] [] (sI h 1204 v0 ((hI h 1204 v0) + (1 : Int32))) Q) ∧ ((¬ (¬ v7 = (-1 : Int32))) → (1 < v0) ∧ (WP d mX12_acts 0 [some (.ref v0), some (.int (1 : Int32)), some (.int v2), some (.int v3), some (.int v4), some (.int (-1 : Int32))] [] (sI h 1204 v0 ((hI h 1204 v0) + (1 : Int32))) (KK d mX12_request mX12_acts 203 [some (.ref v0), some (.int v1), some (.int v2), some (.int v3), some (.int v4), some (.int v5), some (.int v6), some (.int v7), some (.int v8), some (.int v1), u10] [] Q))))) ∧ ((¬ (¬ s0 = 0)) → Q (.inl (some (.int (0 : Int32)))) h)) : WP (d + 1) mX12_request 172 [some (.ref v0), some (.int v1), some (.int v2), some (.int v3), some (.int v4), some (.int v5), some (.int v6), some (.int v7), some (.int v8), u9, u10] [.int s0] h Q := by
  refine w_if_ne (pc' := 177) dX12_request_172 rfl rfl ⟨fun c => ?_, fun c => ?_⟩
  · replace k := k.1 c
    refine w_aload_n dX12_request_177 rfl ?_
    refine w_dup dX12_request_178 rfl ?_
    obtain ⟨g1, k⟩ := k
    refine w_getI dX12_request_179 f_12_164 t_12_4 g1 ?_
    refine w_iconst dX12_request_182 i1_1 ?_
    refine w_iadd dX12_request_183 ?_
    refine w_putI dX12_request_184 f_12_164 t_12_4 (pf_nf n_12_4) g1 ?_
    refine w_iload_n dX12_request_187 rfl ?_
    refine w_istore (lo' := [some (.ref v0), some (.int v1), some (.int v2), some (.int v3), some (.int v4), some (.int v5), some (.int v6), some (.int v7), some (.int v8), some (.int v1), u10]) dX12_request_188 (ltQ rfl) rfl ?_
    refine w_iload dX12_request_190 rfl ?_
    refine w_iconst dX12_request_192 i1_m1 ?_
    refine w_ic_ne (pc' := 206) dX12_request_193 rfl rfl ⟨fun c => ?_, fun c => ?_⟩
    · replace k := k.1 c
      exact k
    · replace k := k.2 c
      refine w_aload_n dX12_request_196 rfl ?_
      refine w_iconst dX12_request_197 i1_1 ?_
      refine w_iload_n dX12_request_198 rfl ?_
      refine w_iload_n dX12_request_199 rfl ?_
      refine w_iload dX12_request_200 rfl ?_
      refine w_iconst dX12_request_202 i1_m1 ?_
      obtain ⟨g2, k⟩ := k
      exact w_virt (as1 := [.int (-1 : Int32), .int v4, .int v3, .int v2, .int (1 : Int32), .ref v0]) (as2 := [.ref v0, .int (1 : Int32), .int v2, .int v3, .int v4, .int (-1 : Int32)]) (rest := []) (lo2 := [some (.ref v0), some (.int (1 : Int32)), some (.int v2), some (.int v3), some (.int v4), some (.int (-1 : Int32))]) dX12_request_203 c_12_257 rfl rfl rfl (Nat.le_of_ble_eq_true rfl) (Nat.le_of_ble_eq_true rfl) rfl (Nat.le_of_ble_eq_true rfl) rfl rfl g2 g1 k
  · replace k := k.2 c
    refine w_iconst dX12_request_175 i1_0 ?_
    exact w_ireturn dX12_request_176 rfl k
theorem bX12_request_206 {d : Nat} {h : HP} {Q : Out → HP → Prop} {v0 : Nat} {v1 : Int32} {v2 : Int32} {v3 : Int32} {v4 : Int32} {v5 : Int32} {v6 : Int32} {v7 : Int32} {v8 : Int32} {v9 : Int32} {u10 : Option Value} (k : (1 < v0) ∧ ((hK h v0 = 12) ∧ (WP d mX12_entryOf 0 [some (.ref v0), some (.int v9), some (.int v2), some (.int v3), some (.int (1 : Int32)), none, none] [] h (KK d mX12_request mX12_entryOf 212 [some (.ref v0), some (.int v1), some (.int v2), some (.int v3), some (.int v4), some (.int v5), some (.int v6), some (.int v7), some (.int v8), some (.int v9), u10] [] Q)))) : WP (d + 1) mX12_request 206 [some (.ref v0), some (.int v1), some (.int v2), some (.int v3), some (.int v4), some (.int v5), some (.int v6), some (.int v7), some (.int v8), some (.int v9), u10] [] h Q := by
  refine w_aload_n dX12_request_206 rfl ?_
  refine w_iload dX12_request_207 rfl ?_
  refine w_iload_n dX12_request_209 rfl ?_
  refine w_iload_n dX12_request_210 rfl ?_
  refine w_iconst dX12_request_211 i1_1 ?_
  obtain ⟨g1, k⟩ := k
  obtain ⟨g2, k⟩ := k
  exact w_virt (as1 := [.int (1 : Int32), .int v3, .int v2, .int v9, .ref v0]) (as2 := [.ref v0, .int v9, .int v2, .int v3, .int (1 : Int32)]) (rest := []) (lo2 := [some (.ref v0), some (.int v9), some (.int v2), some (.int v3), some (.int (1 : Int32)), none, none]) dX12_request_212 c_12_260 rfl rfl rfl (Nat.le_of_ble_eq_true rfl) (Nat.le_of_ble_eq_true rfl) rfl (Nat.le_of_ble_eq_true rfl) rfl rfl g1 g2 k
theorem bX12_request_215 {d : Nat} {h : HP} {Q : Out → HP → Prop} {v0 : Nat} {v1 : Int32} {v2 : Int32} {v3 : Int32} {v4 : Int32} {v5 : Int32} {v6 : Int32} {v7 : Int32} {v8 : Int32} {v9 : Int32} {u10 : Option Value} {s0 : Int32} (k : ((¬ s0 = 0) → (1 < v0) ∧ ((hK h v0 = 12) ∧ (WP d mX12_ends 0 [some (.ref v0), none] [] h (KK d mX12_request mX12_ends 284 [some (.ref v0), some (.int v1), some (.int v2), some (.int v3), some (.int v4), some (.int v5), some (.int v6), some (.int v7), some (.int v8), some (.int v9), u10] [] Q)))) ∧ ((¬ (¬ s0 = 0)) → (hK h v0 = 12) ∧ ((hK h (hR h 1212 v0) = 20) ∧ ((inA h (hR h 1212 v0) v9 = true) ∧ ((hK h (hR h 1209 v0) = 20) ∧ ((inA h (hR h 1209 v0) v9 = true) ∧ ((hK h (hR h 1214 v0) = 20) ∧ ((inA h (hR h 1214 v0) (((30 : Int32) * v9) + (hAI h (hR h 1212 v0) (v9).toNatClampNeg)) = true) ∧ ((hK h (hR h 1215 v0) = 20) ∧ ((inA h (hR h 1215 v0) (((30 : Int32) * v9) + (hAI h (hR h 1212 v0) (v9).toNatClampNeg)) = true) ∧ ((hK h (hR h 1216 v0) = 20) ∧ ((inA h (hR h 1216 v0) (((30 : Int32) * v9) + (hAI h (hR h 1212 v0) (v9).toNatClampNeg)) = true) ∧ (WP (d + 1) mX12_request 269 [some (.ref v0), some (.int v1), some (.int v2), some (.int v3), some (.int v4), some (.int v5), some (.int v6), some (.int v7), some (.int v8), some (.int v9), some (.int (((30 : Int32) * v9) + (hAI h (hR h 1212 v0) (v9).toNatClampNeg)))] [.int (((30 : Int32) * v9) + (hAI h (hR h 1212 v0) (v9).toNatClampNeg)), .ref (hR h 1217 v0)] (sAI (sAI (sAI h (hR h 1214 v0) ((((30 : Int32) * v9) + (hAI h (hR h 1212 v0) (v9).toNatClampNeg))).toNatClampNeg (hAI h (hR h 1209 v0) (v9).toNatClampNeg)) (hR h 1215 v0) ((((30 : Int32) * v9) + (hAI h (hR h 1212 v0) (v9).toNatClampNeg))).toNatClampNeg v2) (hR h 1216 v0) ((((30 : Int32) * v9) + (hAI h (hR h 1212 v0) (v9).toNatClampNeg))).toNatClampNeg v3) Q))))))))))))) : WP (d + 1) mX12_request 215 [some (.ref v0), some (.int v1), some (.int v2), some (.int v3), some (.int v4), some (.int v5), some (.int v6), some (.int v7), some (.int v8), some (.int v9), u10] [.int s0] h Q := by
  refine w_if_ne (pc' := 283) dX12_request_215 rfl rfl ⟨fun c => ?_, fun c => ?_⟩
  · replace k := k.1 c
    refine w_aload_n dX12_request_283 rfl ?_
    obtain ⟨g1, k⟩ := k
    obtain ⟨g2, k⟩ := k
    exact w_virt (as1 := [.ref v0]) (as2 := [.ref v0]) (rest := []) (lo2 := [some (.ref v0), none]) dX12_request_284 c_12_187 rfl rfl rfl (Nat.le_of_ble_eq_true rfl) (Nat.le_of_ble_eq_true rfl) rfl (Nat.le_of_ble_eq_true rfl) rfl rfl g1 g2 k
  · replace k := k.2 c
    refine w_bipush dX12_request_218 i2_30 ?_
    refine w_iload dX12_request_220 rfl ?_
    refine w_imul dX12_request_222 ?_
    refine w_aload_n dX12_request_223 rfl ?_
    obtain ⟨g3, k⟩ := k
    refine w_getR dX12_request_224 f_12_42 t_12_12 g3 ?_
    refine w_iload dX12_request_227 rfl ?_
    obtain ⟨g4, k⟩ := k
    obtain ⟨g5, k⟩ := k
    refine w_iaload dX12_request_229 g4 g5 ?_
    refine w_iadd dX12_request_230 ?_
    refine w_istore (lo' := [some (.ref v0), some (.int v1), some (.int v2), some (.int v3), some (.int v4), some (.int v5), some (.int v6), some (.int v7), some (.int v8), some (.int v9), some (.int (((30 : Int32) * v9) + (hAI h (hR h 1212 v0) (v9).toNatClampNeg)))]) dX12_request_231 (ltQ rfl) rfl ?_
    refine w_aload_n dX12_request_233 rfl ?_
    refine w_getR dX12_request_234 f_12_48 t_12_14 g3 ?_
    refine w_iload dX12_request_237 rfl ?_
    refine w_aload_n dX12_request_239 rfl ?_
    refine w_getR dX12_request_240 f_12_32 t_12_9 g3 ?_
    refine w_iload dX12_request_243 rfl ?_
    obtain ⟨g6, k⟩ := k
    obtain ⟨g7, k⟩ := k
    refine w_iaload dX12_request_245 g6 g7 ?_
    obtain ⟨g8, k⟩ := k
    obtain ⟨g9, k⟩ := k
    refine w_iastore dX12_request_246 g8 g9 ?_
    refine w_aload_n dX12_request_247 rfl ?_
    refine w_getR dX12_request_248 f_12_51 t_12_15 g3 ?_
    refine w_iload dX12_request_251 rfl ?_
    refine w_iload_n dX12_request_253 rfl ?_
    obtain ⟨g10, k⟩ := k
    obtain ⟨g11, k⟩ := k
    refine w_iastore dX12_request_254 g10 g11 ?_
    refine w_aload_n dX12_request_255 rfl ?_
    refine w_getR dX12_request_256 f_12_54 t_12_16 g3 ?_
    refine w_iload dX12_request_259 rfl ?_
    refine w_iload_n dX12_request_261 rfl ?_
    obtain ⟨g12, k⟩ := k
    obtain ⟨g13, k⟩ := k
    refine w_iastore dX12_request_262 g12 g13 ?_
    refine w_aload_n dX12_request_263 rfl ?_
    refine w_getR dX12_request_264 f_12_57 t_12_17 g3 ?_
    refine w_iload dX12_request_267 rfl ?_
    exact k
theorem bX12_request_269 {d : Nat} {h : HP} {Q : Out → HP → Prop} {v0 : Nat} {v1 : Int32} {v2 : Int32} {v3 : Int32} {v4 : Int32} {v5 : Int32} {v6 : Int32} {v7 : Int32} {v8 : Int32} {v9 : Int32} {v10 : Int32} {s0 : Int32} {s1 : Nat} (k : (hK h s1 = 20) ∧ ((inA h s1 s0 = true) ∧ ((hK h v0 = 12) ∧ ((hK h (hR h 1212 v0) = 20) ∧ ((inA h (hR h 1212 v0) v9 = true) ∧ ((1 < v0) ∧ (WP d mX12_ends 0 [some (.ref v0), none] [] (sAI (sAI h s1 (s0).toNatClampNeg v4) (hR h 1212 v0) (v9).toNatClampNeg ((hAI (sAI h s1 (s0).toNatClampNeg v4) (hR h 1212 v0) (v9).toNatClampNeg) + (1 : Int32))) (KK d mX12_request mX12_ends 284 [some (.ref v0), some (.int v1), some (.int v2), some (.int v3), some (.int v4), some (.int v5), some (.int v6), some (.int v7), some (.int v8), some (.int v9), some (.int v10)] [] Q)))))))) : WP (d + 1) mX12_request 269 [some (.ref v0), some (.int v1), some (.int v2), some (.int v3), some (.int v4), some (.int v5), some (.int v6), some (.int v7), some (.int v8), some (.int v9), some (.int v10)] [.int s0, .ref s1] h Q := by
  refine w_iload dX12_request_269 rfl ?_
  obtain ⟨g1, k⟩ := k
  obtain ⟨g2, k⟩ := k
  refine w_iastore dX12_request_271 g1 g2 ?_
  refine w_aload_n dX12_request_272 rfl ?_
  obtain ⟨g3, k⟩ := k
  refine w_getR dX12_request_273 f_12_42 t_12_12 g3 ?_
  refine w_iload dX12_request_276 rfl ?_
  refine w_dup2 dX12_request_278 rfl rfl ?_
  obtain ⟨g4, k⟩ := k
  obtain ⟨g5, k⟩ := k
  refine w_iaload dX12_request_279 g4 g5 ?_
  refine w_iconst dX12_request_280 i1_1 ?_
  refine w_iadd dX12_request_281 ?_
  refine w_iastore dX12_request_282 g4 g5 ?_
  refine w_aload_n dX12_request_283 rfl ?_
  obtain ⟨g6, k⟩ := k
  exact w_virt (as1 := [.ref v0]) (as2 := [.ref v0]) (rest := []) (lo2 := [some (.ref v0), none]) dX12_request_284 c_12_187 rfl rfl rfl (Nat.le_of_ble_eq_true rfl) (Nat.le_of_ble_eq_true rfl) rfl (Nat.le_of_ble_eq_true rfl) rfl rfl g6 g3 k
theorem bX12_request_287 {d : Nat} {h : HP} {Q : Out → HP → Prop} {v0 : Nat} {v1 : Int32} {v2 : Int32} {v3 : Int32} {v4 : Int32} {v5 : Int32} {v6 : Int32} {v7 : Int32} {v8 : Int32} {v9 : Int32} {u10 : Option Value} (k : (1 < v0) ∧ ((hK h v0 = 12) ∧ (WP d mX12_entryOf 0 [some (.ref v0), some (.int v9), some (.int v2), some (.int v3), some (.int (0 : Int32)), none, none] [] h (KK d mX12_request mX12_entryOf 293 [some (.ref v0), some (.int v1), some (.int v2), some (.int v3), some (.int v4), some (.int v5), some (.int v6), some (.int v7), some (.int v8), some (.int v9), u10] [] Q)))) : WP (d + 1) mX12_request 287 [some (.ref v0), some (.int v1), some (.int v2), some (.int v3), some (.int v4), some (.int v5), some (.int v6), some (.int v7), some (.int v8), some (.int v9), u10] [] h Q := by
  refine w_aload_n dX12_request_287 rfl ?_
  refine w_iload dX12_request_288 rfl ?_
  refine w_iload_n dX12_request_290 rfl ?_
  refine w_iload_n dX12_request_291 rfl ?_
  refine w_iconst dX12_request_292 i1_0 ?_
  obtain ⟨g1, k⟩ := k
  obtain ⟨g2, k⟩ := k
  exact w_virt (as1 := [.int (0 : Int32), .int v3, .int v2, .int v9, .ref v0]) (as2 := [.ref v0, .int v9, .int v2, .int v3, .int (0 : Int32)]) (rest := []) (lo2 := [some (.ref v0), some (.int v9), some (.int v2), some (.int v3), some (.int (0 : Int32)), none, none]) dX12_request_293 c_12_260 rfl rfl rfl (Nat.le_of_ble_eq_true rfl) (Nat.le_of_ble_eq_true rfl) rfl (Nat.le_of_ble_eq_true rfl) rfl rfl g1 g2 k
theorem bX12_request_296 {d : Nat} {h : HP} {Q : Out → HP → Prop} {v0 : Nat} {v1 : Int32} {v2 : Int32} {v3 : Int32} {v4 : Int32} {v5 : Int32} {v6 : Int32} {v7 : Int32} {v8 : Int32} {v9 : Int32} {u10 : Option Value} {s0 : Int32} (k : Q (.inl (some (.int s0))) h) : WP d mX12_request 296 [some (.ref v0), some (.int v1), some (.int v2), some (.int v3), some (.int v4), some (.int v5), some (.int v6), some (.int v7), some (.int v8), some (.int v9), u10] [.int s0] h Q := by
  exact w_ireturn dX12_request_296 rfl k
theorem bX12_valueOf_0 {d : Nat} {h : HP} {Q : Out → HP → Prop} {v0 : Nat} {v1 : Int32} {u2 : Option Value} {u3 : Option Value} {u4 : Option Value} {u5 : Option Value} {u6 : Option Value} (k : WP d mX12_valueOf 4 [some (.ref v0), some (.int v1), some (.int (0 : Int32)), some (.int (0 : Int32)), u4, u5, u6] [] h Q) : WP d mX12_valueOf 0 [some (.ref v0), some (.int v1), u2, u3, u4, u5, u6] [] h Q := by
  refine w_iconst dX12_valueOf_0 i1_0 ?_
  refine w_istore_n (lo' := [some (.ref v0), some (.int v1), some (.int (0 : Int32)), u3, u4, u5, u6]) dX12_valueOf_1 (ltQ rfl) rfl ?_
  refine w_iconst dX12_valueOf_2 i1_0 ?_
  refine w_istore_n (lo' := [some (.ref v0), some (.int v1), some (.int (0 : Int32)), some (.int (0 : Int32)), u4, u5, u6]) dX12_valueOf_3 (ltQ rfl) rfl ?_
  exact k
theorem bX12_valueOf_4 {d : Nat} {h : HP} {Q : Out → HP → Prop} {v0 : Nat} {v1 : Int32} {v2 : Int32} {v3 : Int32} {u4 : Option Value} {u5 : Option Value} {u6 : Option Value} (k : (hK h v0 = 12) ∧ ((hK h (hR h 1213 v0) = 20) ∧ ((inA h (hR h 1213 v0) v1 = true) ∧ ((((hAI h (hR h 1213 v0) (v1).toNatClampNeg) ≤ v3) → Q (.inl (some (.int v2))) h) ∧ ((¬ ((hAI h (hR h 1213 v0) (v1).toNatClampNeg) ≤ v3)) → WP d mX12_valueOf 31 [some (.ref v0), some (.int v1), some (.int v2), some (.int v3), some (.int (((30 : Int32) * v1) + v3)), some (.int (1 : Int32)), some (.int ((30 : Int32) * v1))] [] h Q))))) : WP d mX12_valueOf 4 [some (.ref v0), some (.int v1), some (.int v2), some (.int v3), u4, u5, u6] [] h Q := by
  refine w_iload_n dX12_valueOf_4 rfl ?_
  refine w_aload_n dX12_valueOf_5 rfl ?_
  obtain ⟨g1, k⟩ := k
  refine w_getR dX12_valueOf_6 f_12_45 t_12_13 g1 ?_
  refine w_iload_n dX12_valueOf_9 rfl ?_
  obtain ⟨g2, k⟩ := k
  obtain ⟨g3, k⟩ := k
  refine w_iaload dX12_valueOf_10 g2 g3 ?_
  refine w_ic_ge (pc' := 113) dX12_valueOf_11 rfl rfl ⟨fun c => ?_, fun c => ?_⟩
  · replace k := k.1 c
    refine w_iload_n dX12_valueOf_113 rfl ?_
    exact w_ireturn dX12_valueOf_114 rfl k
  · replace k := k.2 c
    refine w_bipush dX12_valueOf_14 i2_30 ?_
    refine w_iload_n dX12_valueOf_16 rfl ?_
    refine w_imul dX12_valueOf_17 ?_
    refine w_iload_n dX12_valueOf_18 rfl ?_
    refine w_iadd dX12_valueOf_19 ?_
    refine w_istore (lo' := [some (.ref v0), some (.int v1), some (.int v2), some (.int v3), some (.int (((30 : Int32) * v1) + v3)), u5, u6]) dX12_valueOf_20 (ltQ rfl) rfl ?_
    refine w_iconst dX12_valueOf_22 i1_1 ?_
    refine w_istore (lo' := [some (.ref v0), some (.int v1), some (.int v2), some (.int v3), some (.int (((30 : Int32) * v1) + v3)), some (.int (1 : Int32)), u6]) dX12_valueOf_23 (ltQ rfl) rfl ?_
    refine w_bipush dX12_valueOf_25 i2_30 ?_
    refine w_iload_n dX12_valueOf_27 rfl ?_
    refine w_imul dX12_valueOf_28 ?_
    refine w_istore (lo' := [some (.ref v0), some (.int v1), some (.int v2), some (.int v3), some (.int (((30 : Int32) * v1) + v3)), some (.int (1 : Int32)), some (.int ((30 : Int32) * v1))]) dX12_valueOf_29 (ltQ rfl) rfl ?_
    exact k
theorem bX12_valueOf_31 {d : Nat} {h : HP} {Q : Out → HP → Prop} {v0 : Nat} {v1 : Int32} {v2 : Int32} {v3 : Int32} {v4 : Int32} {v5 : Int32} {v6 : Int32} (k : ((v4 ≤ v6) → ((v5 = 0) → WP d mX12_valueOf 4 [some (.ref v0), some (.int v1), some (.int v2), some (.int (v3 + (1 : Int32))), some (.int v4), some (.int v5), some (.int v6)] [] h Q) ∧ ((¬ (v5 = 0)) → (hK h v0 = 12) ∧ ((hK h (hR h 1217 v0) = 20) ∧ ((inA h (hR h 1217 v0) v4 = true) ∧ (WP d mX12_valueOf 4 [some (.ref v0), some (.int v1), some (.int (hAI h (hR h 1217 v0) (v4).toNatClampNeg)), some (.int (v3 + (1 : Int32))), some (.int v4), some (.int v5), some (.int v6)] [] h Q))))) ∧ ((¬ (v4 ≤ v6)) → ((v5 = 0) → WP d mX12_valueOf 31 [some (.ref v0), some (.int v1), some (.int v2), some (.int v3), some (.int v4), some (.int (0 : Int32)), some (.int (v6 + (1 : Int32)))] [] h Q) ∧ ((¬ (v5 = 0)) → (hK h v0 = 12) ∧ ((hK h (hR h 1215 v0) = 20) ∧ ((inA h (hR h 1215 v0) v6 = true) ∧ ((inA h (hR h 1215 v0) v4 = true) ∧ (((¬ (hAI h (hR h 1215 v0) (v6).toNatClampNeg) = (hAI h (hR h 1215 v0) (v4).toNatClampNeg)) → WP d mX12_valueOf 31 [some (.ref v0), some (.int v1), some (.int v2), some (.int v3), some (.int v4), some (.int (1 : Int32)), some (.int (v6 + (1 : Int32)))] [] h Q) ∧ ((¬ (¬ (hAI h (hR h 1215 v0) (v6).toNatClampNeg) = (hAI h (hR h 1215 v0) (v4).toNatClampNeg))) → (hK h (hR h 1216 v0) = 20) ∧ ((inA h (hR h 1216 v0) v6 = true) ∧ ((inA h (hR h 1216 v0) v4 = true) ∧ ((((hAI h (hR h 1216 v0) (v4).toNatClampNeg) ≤ (hAI h (hR h 1216 v0) (v6).toNatClampNeg)) → WP d mX12_valueOf 31 [some (.ref v0), some (.int v1), some (.int v2), some (.int v3), some (.int v4), some (.int (0 : Int32)), some (.int (v6 + (1 : Int32)))] [] h Q) ∧ ((¬ ((hAI h (hR h 1216 v0) (v4).toNatClampNeg) ≤ (hAI h (hR h 1216 v0) (v6).toNatClampNeg))) → WP d mX12_valueOf 31 [some (.ref v0), some (.int v1), some (.int v2), some (.int v3), some (.int v4), some (.int (1 : Int32)), some (.int (v6 + (1 : Int32)))] [] h Q)))))))))))) : WP d mX12_valueOf 31 [some (.ref v0), some (.int v1), some (.int v2), some (.int v3), some (.int v4), some (.int v5), some (.int v6)] [] h Q := by
  refine w_iload dX12_valueOf_31 rfl ?_
  refine w_iload dX12_valueOf_33 rfl ?_
  refine w_ic_ge (pc' := 90) dX12_valueOf_35 rfl rfl ⟨fun c => ?_, fun c => ?_⟩
  · replace k := k.1 c
    refine w_iload dX12_valueOf_90 rfl ?_
    refine w_if_eq (pc' := 105) dX12_valueOf_92 rfl rfl ⟨fun c => ?_, fun c => ?_⟩
    · replace k := k.1 c
      refine w_iload_n dX12_valueOf_105 rfl ?_
      refine w_istore_n (lo' := [some (.ref v0), some (.int v1), some (.int v2), some (.int v3), some (.int v4), some (.int v5), some (.int v6)]) dX12_valueOf_106 (ltQ rfl) rfl ?_
      refine w_iinc (lo' := [some (.ref v0), some (.int v1), some (.int v2), some (.int (v3 + (1 : Int32))), some (.int v4), some (.int v5), some (.int v6)]) dX12_valueOf_107 rfl i1_1 rfl ?_
      refine w_goto (pc' := 4) dX12_valueOf_110 rfl rfl ?_
      exact k
    · replace k := k.2 c
      refine w_aload_n dX12_valueOf_95 rfl ?_
      obtain ⟨g1, k⟩ := k
      refine w_getR dX12_valueOf_96 f_12_57 t_12_17 g1 ?_
      refine w_iload dX12_valueOf_99 rfl ?_
      obtain ⟨g2, k⟩ := k
      obtain ⟨g3, k⟩ := k
      refine w_iaload dX12_valueOf_101 g2 g3 ?_
      refine w_goto (pc' := 106) dX12_valueOf_102 rfl rfl ?_
      refine w_istore_n (lo' := [some (.ref v0), some (.int v1), some (.int (hAI h (hR h 1217 v0) (v4).toNatClampNeg)), some (.int v3), some (.int v4), some (.int v5), some (.int v6)]) dX12_valueOf_106 (ltQ rfl) rfl ?_
      refine w_iinc (lo' := [some (.ref v0), some (.int v1), some (.int (hAI h (hR h 1217 v0) (v4).toNatClampNeg)), some (.int (v3 + (1 : Int32))), some (.int v4), some (.int v5), some (.int v6)]) dX12_valueOf_107 rfl i1_1 rfl ?_
      refine w_goto (pc' := 4) dX12_valueOf_110 rfl rfl ?_
      exact k
  · replace k := k.2 c
    refine w_iload dX12_valueOf_38 rfl ?_
    refine w_if_eq (pc' := 81) dX12_valueOf_40 rfl rfl ⟨fun c => ?_, fun c => ?_⟩
    · replace k := k.1 c
      refine w_iconst dX12_valueOf_81 i1_0 ?_
      refine w_istore (lo' := [some (.ref v0), some (.int v1), some (.int v2), some (.int v3), some (.int v4), some (.int (0 : Int32)), some (.int v6)]) dX12_valueOf_82 (ltQ rfl) rfl ?_
      refine w_iinc (lo' := [some (.ref v0), some (.int v1), some (.int v2), some (.int v3), some (.int v4), some (.int (0 : Int32)), some (.int (v6 + (1 : Int32)))]) dX12_valueOf_84 rfl i1_1 rfl ?_
      refine w_goto (pc' := 31) dX12_valueOf_87 rfl rfl ?_
      exact k
    · replace k := k.2 c
      refine w_aload_n dX12_valueOf_43 rfl ?_
      obtain ⟨g4, k⟩ := k
      refine w_getR dX12_valueOf_44 f_12_51 t_12_15 g4 ?_
      refine w_iload dX12_valueOf_47 rfl ?_
      obtain ⟨g5, k⟩ := k
      obtain ⟨g6, k⟩ := k
      refine w_iaload dX12_valueOf_49 g5 g6 ?_
      refine w_aload_n dX12_valueOf_50 rfl ?_
      refine w_getR dX12_valueOf_51 f_12_51 t_12_15 g4 ?_
      refine w_iload dX12_valueOf_54 rfl ?_
      obtain ⟨g7, k⟩ := k
      refine w_iaload dX12_valueOf_56 g5 g7 ?_
      refine w_ic_ne (pc' := 77) dX12_valueOf_57 rfl rfl ⟨fun c => ?_, fun c => ?_⟩
      · replace k := k.1 c
        refine w_iconst dX12_valueOf_77 i1_1 ?_
        refine w_goto (pc' := 82) dX12_valueOf_78 rfl rfl ?_
        refine w_istore (lo' := [some (.ref v0), some (.int v1), some (.int v2), some (.int v3), some (.int v4), some (.int (1 : Int32)), some (.int v6)]) dX12_valueOf_82 (ltQ rfl) rfl ?_
        refine w_iinc (lo' := [some (.ref v0), some (.int v1), some (.int v2), some (.int v3), some (.int v4), some (.int (1 : Int32)), some (.int (v6 + (1 : Int32)))]) dX12_valueOf_84 rfl i1_1 rfl ?_
        refine w_goto (pc' := 31) dX12_valueOf_87 rfl rfl ?_
        exact k
      · replace k := k.2 c
        refine w_aload_n dX12_valueOf_60 rfl ?_
        refine w_getR dX12_valueOf_61 f_12_54 t_12_16 g4 ?_
        refine w_iload dX12_valueOf_64 rfl ?_
        obtain ⟨g8, k⟩ := k
        obtain ⟨g9, k⟩ := k
        refine w_iaload dX12_valueOf_66 g8 g9 ?_
        refine w_aload_n dX12_valueOf_67 rfl ?_
        refine w_getR dX12_valueOf_68 f_12_54 t_12_16 g4 ?_
        refine w_iload dX12_valueOf_71 rfl ?_
        obtain ⟨g10, k⟩ := k
        refine w_iaload dX12_valueOf_73 g8 g10 ?_
        refine w_ic_ge (pc' := 81) dX12_valueOf_74 rfl rfl ⟨fun c => ?_, fun c => ?_⟩
        · replace k := k.1 c
          refine w_iconst dX12_valueOf_81 i1_0 ?_
          refine w_istore (lo' := [some (.ref v0), some (.int v1), some (.int v2), some (.int v3), some (.int v4), some (.int (0 : Int32)), some (.int v6)]) dX12_valueOf_82 (ltQ rfl) rfl ?_
          refine w_iinc (lo' := [some (.ref v0), some (.int v1), some (.int v2), some (.int v3), some (.int v4), some (.int (0 : Int32)), some (.int (v6 + (1 : Int32)))]) dX12_valueOf_84 rfl i1_1 rfl ?_
          refine w_goto (pc' := 31) dX12_valueOf_87 rfl rfl ?_
          exact k
        · replace k := k.2 c
          refine w_iconst dX12_valueOf_77 i1_1 ?_
          refine w_goto (pc' := 82) dX12_valueOf_78 rfl rfl ?_
          refine w_istore (lo' := [some (.ref v0), some (.int v1), some (.int v2), some (.int v3), some (.int v4), some (.int (1 : Int32)), some (.int v6)]) dX12_valueOf_82 (ltQ rfl) rfl ?_
          refine w_iinc (lo' := [some (.ref v0), some (.int v1), some (.int v2), some (.int v3), some (.int v4), some (.int (1 : Int32)), some (.int (v6 + (1 : Int32)))]) dX12_valueOf_84 rfl i1_1 rfl ?_
          refine w_goto (pc' := 31) dX12_valueOf_87 rfl rfl ?_
          exact k
theorem bX12_holdsLease_0 {d : Nat} {h : HP} {Q : Out → HP → Prop} {v0 : Nat} {v1 : Int32} (k : (hK h v0 = 12) ∧ ((hK h (hR h 1205 v0) = 21) ∧ ((inA h (hR h 1205 v0) v1 = true) ∧ ((((hAI h (hR h 1205 v0) (v1).toNatClampNeg) = 0) → Q (.inl (some (.int (0 : Int32)))) h) ∧ ((¬ ((hAI h (hR h 1205 v0) (v1).toNatClampNeg) = 0)) → (hK h (hR h 1211 v0) = 20) ∧ ((inA h (hR h 1211 v0) v1 = true) ∧ (((¬ (hAI h (hR h 1211 v0) (v1).toNatClampNeg) = (2 : Int32)) → Q (.inl (some (.int (0 : Int32)))) h) ∧ ((¬ (¬ (hAI h (hR h 1211 v0) (v1).toNatClampNeg) = (2 : Int32))) → (hK h (hR h 1223 v0) = 21) ∧ ((inA h (hR h 1223 v0) v1 = true) ∧ ((((hAI h (hR h 1223 v0) (v1).toNatClampNeg) = 0) → Q (.inl (some (.int (0 : Int32)))) h) ∧ ((¬ ((hAI h (hR h 1223 v0) (v1).toNatClampNeg) = 0)) → (hK h (hR h 1207 v0) = 22) ∧ ((inA h (hR h 1207 v0) v1 = true) ∧ ((hK h (hR h 1224 v0) = 22) ∧ ((inA h (hR h 1224 v0) v1 = true) ∧ (((0 ≤ (Op.cmpValue (FP.fcmp (hAF h (hR h 1207 v0) (v1).toNatClampNeg) (hAF h (hR h 1224 v0) (v1).toNatClampNeg)) .g)) → Q (.inl (some (.int (0 : Int32)))) h) ∧ ((¬ (0 ≤ (Op.cmpValue (FP.fcmp (hAF h (hR h 1207 v0) (v1).toNatClampNeg) (hAF h (hR h 1224 v0) (v1).toNatClampNeg)) .g))) → Q (.inl (some (.int (1 : Int32)))) h)))))))))))))))) : WP d mX12_holdsLease 0 [some (.ref v0), some (.int v1)] [] h Q := by
  refine w_aload_n dX12_holdsLease_0 rfl ?_
  obtain ⟨g1, k⟩ := k
  refine w_getR dX12_holdsLease_1 f_12_18 t_12_5 g1 ?_
  refine w_iload_n dX12_holdsLease_4 rfl ?_
  obtain ⟨g2, k⟩ := k
  obtain ⟨g3, k⟩ := k
  refine w_baload dX12_holdsLease_5 g2 g3 ?_
  refine w_if_eq (pc' := 48) dX12_holdsLease_6 rfl rfl ⟨fun c => ?_, fun c => ?_⟩
  · replace k := k.1 c
    refine w_iconst dX12_holdsLease_48 i1_0 ?_
    exact w_ireturn dX12_holdsLease_49 rfl k
  · replace k := k.2 c
    refine w_aload_n dX12_holdsLease_9 rfl ?_
    refine w_getR dX12_holdsLease_10 f_12_39 t_12_11 g1 ?_
    refine w_iload_n dX12_holdsLease_13 rfl ?_
    obtain ⟨g4, k⟩ := k
    obtain ⟨g5, k⟩ := k
    refine w_iaload dX12_holdsLease_14 g4 g5 ?_
    refine w_iconst dX12_holdsLease_15 i1_2 ?_
    refine w_ic_ne (pc' := 48) dX12_holdsLease_16 rfl rfl ⟨fun c => ?_, fun c => ?_⟩
    · replace k := k.1 c
      refine w_iconst dX12_holdsLease_48 i1_0 ?_
      exact w_ireturn dX12_holdsLease_49 rfl k
    · replace k := k.2 c
      refine w_aload_n dX12_holdsLease_19 rfl ?_
      refine w_getR dX12_holdsLease_20 f_12_75 t_12_23 g1 ?_
      refine w_iload_n dX12_holdsLease_23 rfl ?_
      obtain ⟨g6, k⟩ := k
      obtain ⟨g7, k⟩ := k
      refine w_baload dX12_holdsLease_24 g6 g7 ?_
      refine w_if_eq (pc' := 48) dX12_holdsLease_25 rfl rfl ⟨fun c => ?_, fun c => ?_⟩
      · replace k := k.1 c
        refine w_iconst dX12_holdsLease_48 i1_0 ?_
        exact w_ireturn dX12_holdsLease_49 rfl k
      · replace k := k.2 c
        refine w_aload_n dX12_holdsLease_28 rfl ?_
        refine w_getR dX12_holdsLease_29 f_12_25 t_12_7 g1 ?_
        refine w_iload_n dX12_holdsLease_32 rfl ?_
        obtain ⟨g8, k⟩ := k
        obtain ⟨g9, k⟩ := k
        refine w_faload dX12_holdsLease_33 g8 g9 ?_
        refine w_aload_n dX12_holdsLease_34 rfl ?_
        refine w_getR dX12_holdsLease_35 f_12_78 t_12_24 g1 ?_
        refine w_iload_n dX12_holdsLease_38 rfl ?_
        obtain ⟨g10, k⟩ := k
        obtain ⟨g11, k⟩ := k
        refine w_faload dX12_holdsLease_39 g10 g11 ?_
        refine w_fcmp dX12_holdsLease_40 ?_
        refine w_if_ge (pc' := 48) dX12_holdsLease_41 rfl rfl ⟨fun c => ?_, fun c => ?_⟩
        · replace k := k.1 c
          refine w_iconst dX12_holdsLease_48 i1_0 ?_
          exact w_ireturn dX12_holdsLease_49 rfl k
        · replace k := k.2 c
          refine w_iconst dX12_holdsLease_44 i1_1 ?_
          refine w_goto (pc' := 49) dX12_holdsLease_45 rfl rfl ?_
          exact w_ireturn dX12_holdsLease_49 rfl k
theorem bX12_read_0 {d : Nat} {h : HP} {Q : Out → HP → Prop} {v0 : Nat} {v1 : Int32} {u2 : Option Value} {u3 : Option Value} {u4 : Option Value} (k : (1 < v0) ∧ ((hK h v0 = 12) ∧ (WP d mX12_isMachine 0 [some (.ref v0), some (.int v1)] [] h (KK d mX12_read mX12_isMachine 2 [some (.ref v0), some (.int v1), u2, u3, u4] [] Q)))) : WP (d + 1) mX12_read 0 [some (.ref v0), some (.int v1), u2, u3, u4] [] h Q := by
  refine w_aload_n dX12_read_0 rfl ?_
  refine w_iload_n dX12_read_1 rfl ?_
  obtain ⟨g1, k⟩ := k
  obtain ⟨g2, k⟩ := k
  exact w_virt (as1 := [.int v1, .ref v0]) (as2 := [.ref v0, .int v1]) (rest := []) (lo2 := [some (.ref v0), some (.int v1)]) dX12_read_2 c_12_181 rfl rfl rfl (Nat.le_of_ble_eq_true rfl) (Nat.le_of_ble_eq_true rfl) rfl (Nat.le_of_ble_eq_true rfl) rfl rfl g1 g2 k
theorem bX12_read_5 {d : Nat} {h : HP} {Q : Out → HP → Prop} {v0 : Nat} {v1 : Int32} {u2 : Option Value} {u3 : Option Value} {u4 : Option Value} {s0 : Int32} (k : ((s0 = 0) → (1 < v0) ∧ ((hK h v0 = 12) ∧ (WP d mX12_goes 0 [some (.ref v0), some (.int s0), some (.int (0 : Int32)), some (.int (1 : Int32))] [] h (KK d mX12_read mX12_goes 66 [some (.ref v0), some (.int v1), some (.int s0), some (.int (0 : Int32)), u4] [] Q)))) ∧ ((¬ (s0 = 0)) → (1 < v0) ∧ ((hK h v0 = 12) ∧ (WP d mX12_holdsLease 0 [some (.ref v0), some (.int v1)] [] h (KK d mX12_read mX12_holdsLease 12 [some (.ref v0), some (.int v1), some (.int s0), u3, u4] [] Q))))) : WP (d + 1) mX12_read 5 [some (.ref v0), some (.int v1), u2, u3, u4] [.int s0] h Q := by
  refine w_istore_n (lo' := [some (.ref v0), some (.int v1), some (.int s0), u3, u4]) dX12_read_5 (ltQ rfl) rfl ?_
  refine w_iload_n dX12_read_6 rfl ?_
  refine w_if_eq (pc' := 60) dX12_read_7 rfl rfl ⟨fun c => ?_, fun c => ?_⟩
  · replace k := k.1 c
    refine w_iconst dX12_read_60 i1_0 ?_
    refine w_istore_n (lo' := [some (.ref v0), some (.int v1), some (.int s0), some (.int (0 : Int32)), u4]) dX12_read_61 (ltQ rfl) rfl ?_
    refine w_aload_n dX12_read_62 rfl ?_
    refine w_iload_n dX12_read_63 rfl ?_
    refine w_iload_n dX12_read_64 rfl ?_
    refine w_iconst dX12_read_65 i1_1 ?_
    obtain ⟨g1, k⟩ := k
    obtain ⟨g2, k⟩ := k
    exact w_virt (as1 := [.int (1 : Int32), .int (0 : Int32), .int s0, .ref v0]) (as2 := [.ref v0, .int s0, .int (0 : Int32), .int (1 : Int32)]) (rest := []) (lo2 := [some (.ref v0), some (.int s0), some (.int (0 : Int32)), some (.int (1 : Int32))]) dX12_read_66 c_12_173 rfl rfl rfl (Nat.le_of_ble_eq_true rfl) (Nat.le_of_ble_eq_true rfl) rfl (Nat.le_of_ble_eq_true rfl) rfl rfl g1 g2 k
  · replace k := k.2 c
    refine w_aload_n dX12_read_10 rfl ?_
    refine w_iload_n dX12_read_11 rfl ?_
    obtain ⟨g3, k⟩ := k
    obtain ⟨g4, k⟩ := k
    exact w_virt (as1 := [.int v1, .ref v0]) (as2 := [.ref v0, .int v1]) (rest := []) (lo2 := [some (.ref v0), some (.int v1)]) dX12_read_12 c_12_264 rfl rfl rfl (Nat.le_of_ble_eq_true rfl) (Nat.le_of_ble_eq_true rfl) rfl (Nat.le_of_ble_eq_true rfl) rfl rfl g3 g4 k
theorem bX12_read_15 {d : Nat} {h : HP} {Q : Out → HP → Prop} {v0 : Nat} {v1 : Int32} {v2 : Int32} {u3 : Option Value} {u4 : Option Value} {s0 : Int32} (k : ((s0 = 0) → (1 < v0) ∧ ((hK h v0 = 12) ∧ (WP d mX12_goes 0 [some (.ref v0), some (.int v2), some (.int (0 : Int32)), some (.int (1 : Int32))] [] h (KK d mX12_read mX12_goes 66 [some (.ref v0), some (.int v1), some (.int v2), some (.int (0 : Int32)), u4] [] Q)))) ∧ ((¬ (s0 = 0)) → (hK h v0 = 12) ∧ ((hK h (hR h 1213 v0) = 20) ∧ ((inA h (hR h 1213 v0) v1 = true) ∧ ((((hAI h (hR h 1213 v0) (v1).toNatClampNeg) ≤ 0) → (1 < v0) ∧ (WP d mX12_goes 0 [some (.ref v0), some (.int v2), some (.int (0 : Int32)), some (.int (1 : Int32))] [] h (KK d mX12_read mX12_goes 66 [some (.ref v0), some (.int v1), some (.int v2), some (.int (0 : Int32)), u4] [] Q))) ∧ ((¬ ((hAI h (hR h 1213 v0) (v1).toNatClampNeg) ≤ 0)) → (1 < v0) ∧ (WP d mX12_termAt 0 [some (.ref v0), some (.int v1), some (.int (hAI h (hR h 1213 v0) (v1).toNatClampNeg))] [] h (KK d mX12_read mX12_termAt 35 [some (.ref v0), some (.int v1), some (.int v2), u3, u4] [] Q)))))))) : WP (d + 1) mX12_read 15 [some (.ref v0), some (.int v1), some (.int v2), u3, u4] [.int s0] h Q := by
  refine w_if_eq (pc' := 60) dX12_read_15 rfl rfl ⟨fun c => ?_, fun c => ?_⟩
  · replace k := k.1 c
    refine w_iconst dX12_read_60 i1_0 ?_
    refine w_istore_n (lo' := [some (.ref v0), some (.int v1), some (.int v2), some (.int (0 : Int32)), u4]) dX12_read_61 (ltQ rfl) rfl ?_
    refine w_aload_n dX12_read_62 rfl ?_
    refine w_iload_n dX12_read_63 rfl ?_
    refine w_iload_n dX12_read_64 rfl ?_
    refine w_iconst dX12_read_65 i1_1 ?_
    obtain ⟨g1, k⟩ := k
    obtain ⟨g2, k⟩ := k
    exact w_virt (as1 := [.int (1 : Int32), .int (0 : Int32), .int v2, .ref v0]) (as2 := [.ref v0, .int v2, .int (0 : Int32), .int (1 : Int32)]) (rest := []) (lo2 := [some (.ref v0), some (.int v2), some (.int (0 : Int32)), some (.int (1 : Int32))]) dX12_read_66 c_12_173 rfl rfl rfl (Nat.le_of_ble_eq_true rfl) (Nat.le_of_ble_eq_true rfl) rfl (Nat.le_of_ble_eq_true rfl) rfl rfl g1 g2 k
  · replace k := k.2 c
    refine w_aload_n dX12_read_18 rfl ?_
    obtain ⟨g3, k⟩ := k
    refine w_getR dX12_read_19 f_12_45 t_12_13 g3 ?_
    refine w_iload_n dX12_read_22 rfl ?_
    obtain ⟨g4, k⟩ := k
    obtain ⟨g5, k⟩ := k
    refine w_iaload dX12_read_23 g4 g5 ?_
    refine w_if_le (pc' := 60) dX12_read_24 rfl rfl ⟨fun c => ?_, fun c => ?_⟩
    · replace k := k.1 c
      refine w_iconst dX12_read_60 i1_0 ?_
      refine w_istore_n (lo' := [some (.ref v0), some (.int v1), some (.int v2), some (.int (0 : Int32)), u4]) dX12_read_61 (ltQ rfl) rfl ?_
      refine w_aload_n dX12_read_62 rfl ?_
      refine w_iload_n dX12_read_63 rfl ?_
      refine w_iload_n dX12_read_64 rfl ?_
      refine w_iconst dX12_read_65 i1_1 ?_
      obtain ⟨g6, k⟩ := k
      exact w_virt (as1 := [.int (1 : Int32), .int (0 : Int32), .int v2, .ref v0]) (as2 := [.ref v0, .int v2, .int (0 : Int32), .int (1 : Int32)]) (rest := []) (lo2 := [some (.ref v0), some (.int v2), some (.int (0 : Int32)), some (.int (1 : Int32))]) dX12_read_66 c_12_173 rfl rfl rfl (Nat.le_of_ble_eq_true rfl) (Nat.le_of_ble_eq_true rfl) rfl (Nat.le_of_ble_eq_true rfl) rfl rfl g6 g3 k
    · replace k := k.2 c
      refine w_aload_n dX12_read_27 rfl ?_
      refine w_iload_n dX12_read_28 rfl ?_
      refine w_aload_n dX12_read_29 rfl ?_
      refine w_getR dX12_read_30 f_12_45 t_12_13 g3 ?_
      refine w_iload_n dX12_read_33 rfl ?_
      refine w_iaload dX12_read_34 g4 g5 ?_
      obtain ⟨g7, k⟩ := k
      exact w_virt (as1 := [.int (hAI h (hR h 1213 v0) (v1).toNatClampNeg), .int v1, .ref v0]) (as2 := [.ref v0, .int v1, .int (hAI h (hR h 1213 v0) (v1).toNatClampNeg)]) (rest := []) (lo2 := [some (.ref v0), some (.int v1), some (.int (hAI h (hR h 1213 v0) (v1).toNatClampNeg))]) dX12_read_35 c_12_233 rfl rfl rfl (Nat.le_of_ble_eq_true rfl) (Nat.le_of_ble_eq_true rfl) rfl (Nat.le_of_ble_eq_true rfl) rfl rfl g7 g3 k
theorem bX12_read_38 {d : Nat} {h : HP} {Q : Out → HP → Prop} {v0 : Nat} {v1 : Int32} {v2 : Int32} {u3 : Option Value} {u4 : Option Value} {s0 : Int32} (k : (hK h v0 = 12) ∧ ((hK h (hR h 1209 v0) = 20) ∧ ((inA h (hR h 1209 v0) v1 = true) ∧ (((¬ s0 = (hAI h (hR h 1209 v0) (v1).toNatClampNeg)) → (1 < v0) ∧ (WP d mX12_goes 0 [some (.ref v0), some (.int v2), some (.int (0 : Int32)), some (.int (1 : Int32))] [] h (KK d mX12_read mX12_goes 66 [some (.ref v0), some (.int v1), some (.int v2), some (.int (0 : Int32)), u4] [] Q))) ∧ ((¬ (¬ s0 = (hAI h (hR h 1209 v0) (v1).toNatClampNeg))) → (((14 : Int32) ≤ (hI h 1247 v0)) → (1 < v0) ∧ (WP d mX12_goes 0 [some (.ref v0), some (.int v2), some (.int (0 : Int32)), some (.int (1 : Int32))] [] h (KK d mX12_read mX12_goes 66 [some (.ref v0), some (.int v1), some (.int v2), some (.int (0 : Int32)), u4] [] Q))) ∧ ((¬ ((14 : Int32) ≤ (hI h 1247 v0))) → (1 < v0) ∧ (WP d mX12_goes 0 [some (.ref v0), some (.int v2), some (.int (1 : Int32)), some (.int (1 : Int32))] [] h (KK d mX12_read mX12_goes 66 [some (.ref v0), some (.int v1), some (.int v2), some (.int (1 : Int32)), u4] [] Q)))))))) : WP (d + 1) mX12_read 38 [some (.ref v0), some (.int v1), some (.int v2), u3, u4] [.int s0] h Q := by
  refine w_aload_n dX12_read_38 rfl ?_
  obtain ⟨g1, k⟩ := k
  refine w_getR dX12_read_39 f_12_32 t_12_9 g1 ?_
  refine w_iload_n dX12_read_42 rfl ?_
  obtain ⟨g2, k⟩ := k
  obtain ⟨g3, k⟩ := k
  refine w_iaload dX12_read_43 g2 g3 ?_
  refine w_ic_ne (pc' := 60) dX12_read_44 rfl rfl ⟨fun c => ?_, fun c => ?_⟩
  · replace k := k.1 c
    refine w_iconst dX12_read_60 i1_0 ?_
    refine w_istore_n (lo' := [some (.ref v0), some (.int v1), some (.int v2), some (.int (0 : Int32)), u4]) dX12_read_61 (ltQ rfl) rfl ?_
    refine w_aload_n dX12_read_62 rfl ?_
    refine w_iload_n dX12_read_63 rfl ?_
    refine w_iload_n dX12_read_64 rfl ?_
    refine w_iconst dX12_read_65 i1_1 ?_
    obtain ⟨g4, k⟩ := k
    exact w_virt (as1 := [.int (1 : Int32), .int (0 : Int32), .int v2, .ref v0]) (as2 := [.ref v0, .int v2, .int (0 : Int32), .int (1 : Int32)]) (rest := []) (lo2 := [some (.ref v0), some (.int v2), some (.int (0 : Int32)), some (.int (1 : Int32))]) dX12_read_66 c_12_173 rfl rfl rfl (Nat.le_of_ble_eq_true rfl) (Nat.le_of_ble_eq_true rfl) rfl (Nat.le_of_ble_eq_true rfl) rfl rfl g4 g1 k
  · replace k := k.2 c
    refine w_aload_n dX12_read_47 rfl ?_
    refine w_getI dX12_read_48 f_12_170 t_12_47 g1 ?_
    refine w_bipush dX12_read_51 i2_14 ?_
    refine w_ic_ge (pc' := 60) dX12_read_53 rfl rfl ⟨fun c => ?_, fun c => ?_⟩
    · replace k := k.1 c
      refine w_iconst dX12_read_60 i1_0 ?_
      refine w_istore_n (lo' := [some (.ref v0), some (.int v1), some (.int v2), some (.int (0 : Int32)), u4]) dX12_read_61 (ltQ rfl) rfl ?_
      refine w_aload_n dX12_read_62 rfl ?_
      refine w_iload_n dX12_read_63 rfl ?_
      refine w_iload_n dX12_read_64 rfl ?_
      refine w_iconst dX12_read_65 i1_1 ?_
      obtain ⟨g5, k⟩ := k
      exact w_virt (as1 := [.int (1 : Int32), .int (0 : Int32), .int v2, .ref v0]) (as2 := [.ref v0, .int v2, .int (0 : Int32), .int (1 : Int32)]) (rest := []) (lo2 := [some (.ref v0), some (.int v2), some (.int (0 : Int32)), some (.int (1 : Int32))]) dX12_read_66 c_12_173 rfl rfl rfl (Nat.le_of_ble_eq_true rfl) (Nat.le_of_ble_eq_true rfl) rfl (Nat.le_of_ble_eq_true rfl) rfl rfl g5 g1 k
    · replace k := k.2 c
      refine w_iconst dX12_read_56 i1_1 ?_
      refine w_goto (pc' := 61) dX12_read_57 rfl rfl ?_
      refine w_istore_n (lo' := [some (.ref v0), some (.int v1), some (.int v2), some (.int (1 : Int32)), u4]) dX12_read_61 (ltQ rfl) rfl ?_
      refine w_aload_n dX12_read_62 rfl ?_
      refine w_iload_n dX12_read_63 rfl ?_
      refine w_iload_n dX12_read_64 rfl ?_
      refine w_iconst dX12_read_65 i1_1 ?_
      obtain ⟨g6, k⟩ := k
      exact w_virt (as1 := [.int (1 : Int32), .int (1 : Int32), .int v2, .ref v0]) (as2 := [.ref v0, .int v2, .int (1 : Int32), .int (1 : Int32)]) (rest := []) (lo2 := [some (.ref v0), some (.int v2), some (.int (1 : Int32)), some (.int (1 : Int32))]) dX12_read_66 c_12_173 rfl rfl rfl (Nat.le_of_ble_eq_true rfl) (Nat.le_of_ble_eq_true rfl) rfl (Nat.le_of_ble_eq_true rfl) rfl rfl g6 g1 k
theorem bX12_read_69 {d : Nat} {h : HP} {Q : Out → HP → Prop} {v0 : Nat} {v1 : Int32} {v2 : Int32} {v3 : Int32} {u4 : Option Value} {s0 : Int32} (k : ((¬ s0 = 0) → (hK h v0 = 12) ∧ ((1 < v0) ∧ (WP d mX12_valueOf 0 [some (.ref v0), some (.int v1), none, none, none, none, none] [] (sI h 1204 v0 ((hI h 1204 v0) + (1 : Int32))) (KK d mX12_read mX12_valueOf 86 [some (.ref v0), some (.int v1), some (.int v2), some (.int v3), u4] [] Q)))) ∧ ((¬ (¬ s0 = 0)) → Q (.inl (some (.int (0 : Int32)))) h)) : WP (d + 1) mX12_read 69 [some (.ref v0), some (.int v1), some (.int v2), some (.int v3), u4] [.int s0] h Q := by
  refine w_if_ne (pc' := 74) dX12_read_69 rfl rfl ⟨fun c => ?_, fun c => ?_⟩
  · replace k := k.1 c
    refine w_aload_n dX12_read_74 rfl ?_
    refine w_dup dX12_read_75 rfl ?_
    obtain ⟨g1, k⟩ := k
    refine w_getI dX12_read_76 f_12_164 t_12_4 g1 ?_
    refine w_iconst dX12_read_79 i1_1 ?_
    refine w_iadd dX12_read_80 ?_
    refine w_putI dX12_read_81 f_12_164 t_12_4 (pf_nf n_12_4) g1 ?_
    refine w_aload_n dX12_read_84 rfl ?_
    refine w_iload_n dX12_read_85 rfl ?_
    obtain ⟨g2, k⟩ := k
    exact w_virt (as1 := [.int v1, .ref v0]) (as2 := [.ref v0, .int v1]) (rest := []) (lo2 := [some (.ref v0), some (.int v1), none, none, none, none, none]) dX12_read_86 c_12_267 rfl rfl rfl (Nat.le_of_ble_eq_true rfl) (Nat.le_of_ble_eq_true rfl) rfl (Nat.le_of_ble_eq_true rfl) rfl rfl g2 g1 k
  · replace k := k.2 c
    refine w_iconst dX12_read_72 i1_0 ?_
    exact w_ireturn dX12_read_73 rfl k
theorem bX12_read_89 {d : Nat} {h : HP} {Q : Out → HP → Prop} {v0 : Nat} {v1 : Int32} {v2 : Int32} {v3 : Int32} {u4 : Option Value} {s0 : Int32} (k : (hK h v0 = 12) ∧ ((1 < v0) ∧ (WP d mX12_acts 0 [some (.ref v0), some (.int (0 : Int32)), some (.int (0 : Int32)), some (.int (0 : Int32)), some (.int s0), some (.int (hI h 1204 v0))] [] h (KK d mX12_read mX12_acts 101 [some (.ref v0), some (.int v1), some (.int v2), some (.int v3), some (.int s0)] [] Q)))) : WP (d + 1) mX12_read 89 [some (.ref v0), some (.int v1), some (.int v2), some (.int v3), u4] [.int s0] h Q := by
  refine w_istore (lo' := [some (.ref v0), some (.int v1), some (.int v2), some (.int v3), some (.int s0)]) dX12_read_89 (ltQ rfl) rfl ?_
  refine w_aload_n dX12_read_91 rfl ?_
  refine w_iconst dX12_read_92 i1_0 ?_
  refine w_iconst dX12_read_93 i1_0 ?_
  refine w_iconst dX12_read_94 i1_0 ?_
  refine w_iload dX12_read_95 rfl ?_
  refine w_aload_n dX12_read_97 rfl ?_
  obtain ⟨g1, k⟩ := k
  refine w_getI dX12_read_98 f_12_164 t_12_4 g1 ?_
  obtain ⟨g2, k⟩ := k
  exact w_virt (as1 := [.int (hI h 1204 v0), .int s0, .int (0 : Int32), .int (0 : Int32), .int (0 : Int32), .ref v0]) (as2 := [.ref v0, .int (0 : Int32), .int (0 : Int32), .int (0 : Int32), .int s0, .int (hI h 1204 v0)]) (rest := []) (lo2 := [some (.ref v0), some (.int (0 : Int32)), some (.int (0 : Int32)), some (.int (0 : Int32)), some (.int s0), some (.int (hI h 1204 v0))]) dX12_read_101 c_12_257 rfl rfl rfl (Nat.le_of_ble_eq_true rfl) (Nat.le_of_ble_eq_true rfl) rfl (Nat.le_of_ble_eq_true rfl) rfl rfl g2 g1 k
theorem bX12_read_104 {d : Nat} {h : HP} {Q : Out → HP → Prop} {v0 : Nat} {v1 : Int32} {v2 : Int32} {v3 : Int32} {v4 : Int32} (k : (1 < v0) ∧ ((hK h v0 = 12) ∧ (WP d mX12_ends 0 [some (.ref v0), none] [] h (KK d mX12_read mX12_ends 105 [some (.ref v0), some (.int v1), some (.int v2), some (.int v3), some (.int v4)] [] Q)))) : WP (d + 1) mX12_read 104 [some (.ref v0), some (.int v1), some (.int v2), some (.int v3), some (.int v4)] [] h Q := by
  refine w_aload_n dX12_read_104 rfl ?_
  obtain ⟨g1, k⟩ := k
  obtain ⟨g2, k⟩ := k
  exact w_virt (as1 := [.ref v0]) (as2 := [.ref v0]) (rest := []) (lo2 := [some (.ref v0), none]) dX12_read_105 c_12_187 rfl rfl rfl (Nat.le_of_ble_eq_true rfl) (Nat.le_of_ble_eq_true rfl) rfl (Nat.le_of_ble_eq_true rfl) rfl rfl g1 g2 k
theorem bX12_read_108 {d : Nat} {h : HP} {Q : Out → HP → Prop} {v0 : Nat} {v1 : Int32} {v2 : Int32} {v3 : Int32} {v4 : Int32} (k : Q (.inl (some (.int v4))) h) : WP d mX12_read 108 [some (.ref v0), some (.int v1), some (.int v2), some (.int v3), some (.int v4)] [] h Q := by
  refine w_iload dX12_read_108 rfl ?_
  exact w_ireturn dX12_read_110 rfl k
theorem bX12_propose_0 {d : Nat} {h : HP} {Q : Out → HP → Prop} {v0 : Nat} {v1 : Int32} {v2 : Int32} {v3 : Int32} {u4 : Option Value} {u5 : Option Value} {u6 : Option Value} {u7 : Option Value} {u8 : Option Value} (k : (1 < v0) ∧ ((hK h v0 = 12) ∧ (WP d mX12_isMachine 0 [some (.ref v0), some (.int v1)] [] h (KK d mX12_propose mX12_isMachine 2 [some (.ref v0), some (.int v1), some (.int v2), some (.int v3), u4, u5, u6, u7, u8] [] Q)))) : WP (d + 1) mX12_propose 0 [some (.ref v0), some (.int v1), some (.int v2), some (.int v3), u4, u5, u6, u7, u8] [] h Q := by
  refine w_aload_n dX12_propose_0 rfl ?_
  refine w_iload_n dX12_propose_1 rfl ?_
  obtain ⟨g1, k⟩ := k
  obtain ⟨g2, k⟩ := k
  exact w_virt (as1 := [.int v1, .ref v0]) (as2 := [.ref v0, .int v1]) (rest := []) (lo2 := [some (.ref v0), some (.int v1)]) dX12_propose_2 c_12_181 rfl rfl rfl (Nat.le_of_ble_eq_true rfl) (Nat.le_of_ble_eq_true rfl) rfl (Nat.le_of_ble_eq_true rfl) rfl rfl g1 g2 k
theorem bX12_propose_5 {d : Nat} {h : HP} {Q : Out → HP → Prop} {v0 : Nat} {v1 : Int32} {v2 : Int32} {v3 : Int32} {u4 : Option Value} {u5 : Option Value} {u6 : Option Value} {u7 : Option Value} {u8 : Option Value} {s0 : Int32} (k : ((s0 = 0) → WP d mX12_in 0 [some (.int v3), some (.int (0 : Int32)), some (.int (999 : Int32))] [] h (KK d mX12_propose mX12_in 32 [some (.ref v0), some (.int v1), some (.int v2), some (.int v3), some (.int (0 : Int32)), u5, u6, u7, u8] [.int (0 : Int32), .ref v0] Q)) ∧ ((¬ (s0 = 0)) → WP d mX12_in 0 [some (.int v2), some (.int (0 : Int32)), some (.int (3 : Int32))] [] h (KK d mX12_propose mX12_in 11 [some (.ref v0), some (.int v1), some (.int v2), some (.int v3), u4, u5, u6, u7, u8] [] Q))) : WP (d + 1) mX12_propose 5 [some (.ref v0), some (.int v1), some (.int v2), some (.int v3), u4, u5, u6, u7, u8] [.int s0] h Q := by
  refine w_if_eq (pc' := 21) dX12_propose_5 rfl rfl ⟨fun c => ?_, fun c => ?_⟩
  · replace k := k.1 c
    refine w_iconst dX12_propose_21 i1_0 ?_
    refine w_istore (lo' := [some (.ref v0), some (.int v1), some (.int v2), some (.int v3), some (.int (0 : Int32)), u5, u6, u7, u8]) dX12_propose_22 (ltQ rfl) rfl ?_
    refine w_aload_n dX12_propose_24 rfl ?_
    refine w_iload dX12_propose_25 rfl ?_
    refine w_iload_n dX12_propose_27 rfl ?_
    refine w_iconst dX12_propose_28 i1_0 ?_
    refine w_sipush dX12_propose_29 i3_999 ?_
    exact w_stat (as1 := [.int (999 : Int32), .int (0 : Int32), .int v3]) (as2 := [.int v3, .int (0 : Int32), .int (999 : Int32)]) (rest := [.int (0 : Int32), .ref v0]) (lo2 := [some (.int v3), some (.int (0 : Int32)), some (.int (999 : Int32))]) dX12_propose_32 c_12_154 rfl rfl rfl (Nat.le_of_ble_eq_true rfl) (Nat.le_of_ble_eq_true rfl) rfl (Nat.le_of_ble_eq_true rfl) rfl k
  · replace k := k.2 c
    refine w_iload_n dX12_propose_8 rfl ?_
    refine w_iconst dX12_propose_9 i1_0 ?_
    refine w_iconst dX12_propose_10 i1_3 ?_
    exact w_stat (as1 := [.int (3 : Int32), .int (0 : Int32), .int v2]) (as2 := [.int v2, .int (0 : Int32), .int (3 : Int32)]) (rest := []) (lo2 := [some (.int v2), some (.int (0 : Int32)), some (.int (3 : Int32))]) dX12_propose_11 c_12_154 rfl rfl rfl (Nat.le_of_ble_eq_true rfl) (Nat.le_of_ble_eq_true rfl) rfl (Nat.le_of_ble_eq_true rfl) rfl k
theorem bX12_propose_14 {d : Nat} {h : HP} {Q : Out → HP → Prop} {v0 : Nat} {v1 : Int32} {v2 : Int32} {v3 : Int32} {u4 : Option Value} {u5 : Option Value} {u6 : Option Value} {u7 : Option Value} {u8 : Option Value} {s0 : Int32} (k : ((s0 = 0) → WP d mX12_in 0 [some (.int v3), some (.int (0 : Int32)), some (.int (999 : Int32))] [] h (KK d mX12_propose mX12_in 32 [some (.ref v0), some (.int v1), some (.int v2), some (.int v3), some (.int (0 : Int32)), u5, u6, u7, u8] [.int (0 : Int32), .ref v0] Q)) ∧ ((¬ (s0 = 0)) → WP d mX12_in 0 [some (.int v3), some (.int (0 : Int32)), some (.int (999 : Int32))] [] h (KK d mX12_propose mX12_in 32 [some (.ref v0), some (.int v1), some (.int v2), some (.int v3), some (.int (1 : Int32)), u5, u6, u7, u8] [.int (1 : Int32), .ref v0] Q))) : WP (d + 1) mX12_propose 14 [some (.ref v0), some (.int v1), some (.int v2), some (.int v3), u4, u5, u6, u7, u8] [.int s0] h Q := by
  refine w_if_eq (pc' := 21) dX12_propose_14 rfl rfl ⟨fun c => ?_, fun c => ?_⟩
  · replace k := k.1 c
    refine w_iconst dX12_propose_21 i1_0 ?_
    refine w_istore (lo' := [some (.ref v0), some (.int v1), some (.int v2), some (.int v3), some (.int (0 : Int32)), u5, u6, u7, u8]) dX12_propose_22 (ltQ rfl) rfl ?_
    refine w_aload_n dX12_propose_24 rfl ?_
    refine w_iload dX12_propose_25 rfl ?_
    refine w_iload_n dX12_propose_27 rfl ?_
    refine w_iconst dX12_propose_28 i1_0 ?_
    refine w_sipush dX12_propose_29 i3_999 ?_
    exact w_stat (as1 := [.int (999 : Int32), .int (0 : Int32), .int v3]) (as2 := [.int v3, .int (0 : Int32), .int (999 : Int32)]) (rest := [.int (0 : Int32), .ref v0]) (lo2 := [some (.int v3), some (.int (0 : Int32)), some (.int (999 : Int32))]) dX12_propose_32 c_12_154 rfl rfl rfl (Nat.le_of_ble_eq_true rfl) (Nat.le_of_ble_eq_true rfl) rfl (Nat.le_of_ble_eq_true rfl) rfl k
  · replace k := k.2 c
    refine w_iconst dX12_propose_17 i1_1 ?_
    refine w_goto (pc' := 22) dX12_propose_18 rfl rfl ?_
    refine w_istore (lo' := [some (.ref v0), some (.int v1), some (.int v2), some (.int v3), some (.int (1 : Int32)), u5, u6, u7, u8]) dX12_propose_22 (ltQ rfl) rfl ?_
    refine w_aload_n dX12_propose_24 rfl ?_
    refine w_iload dX12_propose_25 rfl ?_
    refine w_iload_n dX12_propose_27 rfl ?_
    refine w_iconst dX12_propose_28 i1_0 ?_
    refine w_sipush dX12_propose_29 i3_999 ?_
    exact w_stat (as1 := [.int (999 : Int32), .int (0 : Int32), .int v3]) (as2 := [.int v3, .int (0 : Int32), .int (999 : Int32)]) (rest := [.int (1 : Int32), .ref v0]) (lo2 := [some (.int v3), some (.int (0 : Int32)), some (.int (999 : Int32))]) dX12_propose_32 c_12_154 rfl rfl rfl (Nat.le_of_ble_eq_true rfl) (Nat.le_of_ble_eq_true rfl) rfl (Nat.le_of_ble_eq_true rfl) rfl k
theorem bX12_propose_35 {d : Nat} {h : HP} {Q : Out → HP → Prop} {v0 : Nat} {v1 : Int32} {v2 : Int32} {v3 : Int32} {v4 : Int32} {u5 : Option Value} {u6 : Option Value} {u7 : Option Value} {u8 : Option Value} {s0 : Int32} {s1 : Int32} {s2 : Nat} (k : ((v4 = 0) → (1 < s2) ∧ ((hK h s2 = 12) ∧ (WP d mX12_goes 0 [some (.ref s2), some (.int s1), some (.int s0), some (.int (0 : Int32))] [] h (KK d mX12_propose mX12_goes 54 [some (.ref v0), some (.int v1), some (.int v2), some (.int v3), some (.int v4), u5, u6, u7, u8] [] Q)))) ∧ ((¬ (v4 = 0)) → (hK h v0 = 12) ∧ ((hK h (hR h 1205 v0) = 21) ∧ ((inA h (hR h 1205 v0) v1 = true) ∧ ((((hAI h (hR h 1205 v0) (v1).toNatClampNeg) = 0) → (1 < s2) ∧ ((hK h s2 = 12) ∧ (WP d mX12_goes 0 [some (.ref s2), some (.int s1), some (.int s0), some (.int (0 : Int32))] [] h (KK d mX12_propose mX12_goes 54 [some (.ref v0), some (.int v1), some (.int v2), some (.int v3), some (.int v4), u5, u6, u7, u8] [] Q)))) ∧ ((¬ ((hAI h (hR h 1205 v0) (v1).toNatClampNeg) = 0)) → (1 < s2) ∧ ((hK h s2 = 12) ∧ (WP d mX12_goes 0 [some (.ref s2), some (.int s1), some (.int s0), some (.int (1 : Int32))] [] h (KK d mX12_propose mX12_goes 54 [some (.ref v0), some (.int v1), some (.int v2), some (.int v3), some (.int v4), u5, u6, u7, u8] [] Q))))))))) : WP (d + 1) mX12_propose 35 [some (.ref v0), some (.int v1), some (.int v2), some (.int v3), some (.int v4), u5, u6, u7, u8] [.int s0, .int s1, .ref s2] h Q := by
  refine w_iload dX12_propose_35 rfl ?_
  refine w_if_eq (pc' := 53) dX12_propose_37 rfl rfl ⟨fun c => ?_, fun c => ?_⟩
  · replace k := k.1 c
    refine w_iconst dX12_propose_53 i1_0 ?_
    obtain ⟨g1, k⟩ := k
    obtain ⟨g2, k⟩ := k
    exact w_virt (as1 := [.int (0 : Int32), .int s0, .int s1, .ref s2]) (as2 := [.ref s2, .int s1, .int s0, .int (0 : Int32)]) (rest := []) (lo2 := [some (.ref s2), some (.int s1), some (.int s0), some (.int (0 : Int32))]) dX12_propose_54 c_12_173 rfl rfl rfl (Nat.le_of_ble_eq_true rfl) (Nat.le_of_ble_eq_true rfl) rfl (Nat.le_of_ble_eq_true rfl) rfl rfl g1 g2 k
  · replace k := k.2 c
    refine w_aload_n dX12_propose_40 rfl ?_
    obtain ⟨g3, k⟩ := k
    refine w_getR dX12_propose_41 f_12_18 t_12_5 g3 ?_
    refine w_iload_n dX12_propose_44 rfl ?_
    obtain ⟨g4, k⟩ := k
    obtain ⟨g5, k⟩ := k
    refine w_baload dX12_propose_45 g4 g5 ?_
    refine w_if_eq (pc' := 53) dX12_propose_46 rfl rfl ⟨fun c => ?_, fun c => ?_⟩
    · replace k := k.1 c
      refine w_iconst dX12_propose_53 i1_0 ?_
      obtain ⟨g6, k⟩ := k
      obtain ⟨g7, k⟩ := k
      exact w_virt (as1 := [.int (0 : Int32), .int s0, .int s1, .ref s2]) (as2 := [.ref s2, .int s1, .int s0, .int (0 : Int32)]) (rest := []) (lo2 := [some (.ref s2), some (.int s1), some (.int s0), some (.int (0 : Int32))]) dX12_propose_54 c_12_173 rfl rfl rfl (Nat.le_of_ble_eq_true rfl) (Nat.le_of_ble_eq_true rfl) rfl (Nat.le_of_ble_eq_true rfl) rfl rfl g6 g7 k
    · replace k := k.2 c
      refine w_iconst dX12_propose_49 i1_1 ?_
      refine w_goto (pc' := 54) dX12_propose_50 rfl rfl ?_
      obtain ⟨g8, k⟩ := k
      obtain ⟨g9, k⟩ := k
      exact w_virt (as1 := [.int (1 : Int32), .int s0, .int s1, .ref s2]) (as2 := [.ref s2, .int s1, .int s0, .int (1 : Int32)]) (rest := []) (lo2 := [some (.ref s2), some (.int s1), some (.int s0), some (.int (1 : Int32))]) dX12_propose_54 c_12_173 rfl rfl rfl (Nat.le_of_ble_eq_true rfl) (Nat.le_of_ble_eq_true rfl) rfl (Nat.le_of_ble_eq_true rfl) rfl rfl g8 g9 k
theorem bX12_propose_57 {d : Nat} {h : HP} {Q : Out → HP → Prop} {v0 : Nat} {v1 : Int32} {v2 : Int32} {v3 : Int32} {v4 : Int32} {u5 : Option Value} {u6 : Option Value} {u7 : Option Value} {u8 : Option Value} {s0 : Int32} (k : ((¬ s0 = 0) → (hK h v0 = 12) ∧ (WP d mX12_propose 82 [some (.ref v0), some (.int v1), some (.int v2), some (.int v3), some (.int v4), some (.int (((4 : Int32) * v1) + v2)), some (.int v1), u7, u8] [] (sI h 1204 v0 ((hI h 1204 v0) + (1 : Int32))) Q)) ∧ ((¬ (¬ s0 = 0)) → Q (.inl (some (.int (0 : Int32)))) h)) : WP d mX12_propose 57 [some (.ref v0), some (.int v1), some (.int v2), some (.int v3), some (.int v4), u5, u6, u7, u8] [.int s0] h Q := by
  refine w_if_ne (pc' := 62) dX12_propose_57 rfl rfl ⟨fun c => ?_, fun c => ?_⟩
  · replace k := k.1 c
    refine w_aload_n dX12_propose_62 rfl ?_
    refine w_dup dX12_propose_63 rfl ?_
    obtain ⟨g1, k⟩ := k
    refine w_getI dX12_propose_64 f_12_164 t_12_4 g1 ?_
    refine w_iconst dX12_propose_67 i1_1 ?_
    refine w_iadd dX12_propose_68 ?_
    refine w_putI dX12_propose_69 f_12_164 t_12_4 (pf_nf n_12_4) g1 ?_
    refine w_iconst dX12_propose_72 i1_4 ?_
    refine w_iload_n dX12_propose_73 rfl ?_
    refine w_imul dX12_propose_74 ?_
    refine w_iload_n dX12_propose_75 rfl ?_
    refine w_iadd dX12_propose_76 ?_
    refine w_istore (lo' := [some (.ref v0), some (.int v1), some (.int v2), some (.int v3), some (.int v4), some (.int (((4 : Int32) * v1) + v2)), u6, u7, u8]) dX12_propose_77 (ltQ rfl) rfl ?_
    refine w_iload_n dX12_propose_79 rfl ?_
    refine w_istore (lo' := [some (.ref v0), some (.int v1), some (.int v2), some (.int v3), some (.int v4), some (.int (((4 : Int32) * v1) + v2)), some (.int v1), u7, u8]) dX12_propose_80 (ltQ rfl) rfl ?_
    exact k
  · replace k := k.2 c
    refine w_iconst dX12_propose_60 i1_0 ?_
    exact w_ireturn dX12_propose_61 rfl k
theorem bX12_propose_82 {d : Nat} {h : HP} {Q : Out → HP → Prop} {v0 : Nat} {v1 : Int32} {v2 : Int32} {v3 : Int32} {v4 : Int32} {v5 : Int32} {v6 : Int32} {u7 : Option Value} {u8 : Option Value} (k : (hK h v0 = 12) ∧ ((hK h (hR h 1227 v0) = 20) ∧ ((inA h (hR h 1227 v0) v5 = true) ∧ ((((hAI h (hR h 1227 v0) (v5).toNatClampNeg) < v6) → (hK h (hR h 1231 v0) = 20) ∧ ((inA h (hR h 1231 v0) v5 = true) ∧ ((hK h (hR h 1228 v0) = 20) ∧ ((inA h (hR h 1228 v0) v5 = true) ∧ (((¬ (hAI (sAI (sAI h (hR h 1227 v0) (v5).toNatClampNeg v6) (hR h 1231 v0) (v5).toNatClampNeg v6) (hR h 1228 v0) (v5).toNatClampNeg) = (-1 : Int32)) → (hK h (hR h 1229 v0) = 20) ∧ ((inA h (hR h 1229 v0) v5 = true) ∧ ((hK h (hR h 1232 v0) = 20) ∧ ((inA h (hR h 1232 v0) v5 = true) ∧ (WP d mX12_propose 160 [some (.ref v0), some (.int v1), some (.int v2), some (.int v3), some (.int v4), some (.int v5), some (.int v6), u7, u8] [.int (hAI (sAI (sAI (sAI h (hR h 1227 v0) (v5).toNatClampNeg v6) (hR h 1231 v0) (v5).toNatClampNeg v6) (hR h 1232 v0) (v5).toNatClampNeg (hAI (sAI (sAI h (hR h 1227 v0) (v5).toNatClampNeg v6) (hR h 1231 v0) (v5).toNatClampNeg v6) (hR h 1229 v0) (v5).toNatClampNeg)) (hR h 1228 v0) (v5).toNatClampNeg), .int v5, .ref (hR h 1234 v0)] (sAI (sAI (sAI h (hR h 1227 v0) (v5).toNatClampNeg v6) (hR h 1231 v0) (v5).toNatClampNeg v6) (hR h 1232 v0) (v5).toNatClampNeg (hAI (sAI (sAI h (hR h 1227 v0) (v5).toNatClampNeg v6) (hR h 1231 v0) (v5).toNatClampNeg v6) (hR h 1229 v0) (v5).toNatClampNeg)) Q))))) ∧ ((¬ (¬ (hAI (sAI (sAI h (hR h 1227 v0) (v5).toNatClampNeg v6) (hR h 1231 v0) (v5).toNatClampNeg v6) (hR h 1228 v0) (v5).toNatClampNeg) = (-1 : Int32))) → (hK h (hR h 1232 v0) = 20) ∧ ((inA h (hR h 1232 v0) v5 = true) ∧ (WP d mX12_propose 160 [some (.ref v0), some (.int v1), some (.int v2), some (.int v3), some (.int v4), some (.int v5), some (.int v6), u7, u8] [.int (hAI (sAI (sAI (sAI h (hR h 1227 v0) (v5).toNatClampNeg v6) (hR h 1231 v0) (v5).toNatClampNeg v6) (hR h 1232 v0) (v5).toNatClampNeg v3) (hR h 1228 v0) (v5).toNatClampNeg), .int v5, .ref (hR h 1234 v0)] (sAI (sAI (sAI h (hR h 1227 v0) (v5).toNatClampNeg v6) (hR h 1231 v0) (v5).toNatClampNeg v6) (hR h 1232 v0) (v5).toNatClampNeg v3) Q)))))))) ∧ ((¬ ((hAI h (hR h 1227 v0) (v5).toNatClampNeg) < v6)) → WP d mX12_propose 82 [some (.ref v0), some (.int v1), some (.int v2), some (.int v3), some (.int v4), some (.int v5), some (.int (v6 + (8 : Int32))), u7, u8] [] h Q))))) : WP d mX12_propose 82 [some (.ref v0), some (.int v1), some (.int v2), some (.int v3), some (.int v4), some (.int v5), some (.int v6), u7, u8] [] h Q := by
  refine w_iload dX12_propose_82 rfl ?_
  refine w_aload_n dX12_propose_84 rfl ?_
  obtain ⟨g1, k⟩ := k
  refine w_getR dX12_propose_85 f_12_87 t_12_27 g1 ?_
  refine w_iload dX12_propose_88 rfl ?_
  obtain ⟨g2, k⟩ := k
  obtain ⟨g3, k⟩ := k
  refine w_iaload dX12_propose_90 g2 g3 ?_
  refine w_ic_gt (pc' := 100) dX12_propose_91 rfl rfl ⟨fun c => ?_, fun c => ?_⟩
  · replace k := k.1 c
    refine w_aload_n dX12_propose_100 rfl ?_
    refine w_getR dX12_propose_101 f_12_87 t_12_27 g1 ?_
    refine w_iload dX12_propose_104 rfl ?_
    refine w_iload dX12_propose_106 rfl ?_
    refine w_iastore dX12_propose_108 g2 g3 ?_
    refine w_aload_n dX12_propose_109 rfl ?_
    refine w_getR dX12_propose_110 f_12_99 t_12_31 g1 ?_
    refine w_iload dX12_propose_113 rfl ?_
    refine w_iload dX12_propose_115 rfl ?_
    obtain ⟨g4, k⟩ := k
    obtain ⟨g5, k⟩ := k
    refine w_iastore dX12_propose_117 g4 g5 ?_
    refine w_aload_n dX12_propose_118 rfl ?_
    refine w_getR dX12_propose_119 f_12_102 t_12_32 g1 ?_
    refine w_iload dX12_propose_122 rfl ?_
    refine w_aload_n dX12_propose_124 rfl ?_
    refine w_getR dX12_propose_125 f_12_90 t_12_28 g1 ?_
    refine w_iload dX12_propose_128 rfl ?_
    obtain ⟨g6, k⟩ := k
    obtain ⟨g7, k⟩ := k
    refine w_iaload dX12_propose_130 g6 g7 ?_
    refine w_iconst dX12_propose_131 i1_m1 ?_
    refine w_ic_ne (pc' := 139) dX12_propose_132 rfl rfl ⟨fun c => ?_, fun c => ?_⟩
    · replace k := k.1 c
      refine w_aload_n dX12_propose_139 rfl ?_
      refine w_getR dX12_propose_140 f_12_93 t_12_29 g1 ?_
      refine w_iload dX12_propose_143 rfl ?_
      obtain ⟨g8, k⟩ := k
      obtain ⟨g9, k⟩ := k
      refine w_iaload dX12_propose_145 g8 g9 ?_
      obtain ⟨g10, k⟩ := k
      obtain ⟨g11, k⟩ := k
      refine w_iastore dX12_propose_146 g10 g11 ?_
      refine w_aload_n dX12_propose_147 rfl ?_
      refine w_getR dX12_propose_148 f_12_108 t_12_34 g1 ?_
      refine w_iload dX12_propose_151 rfl ?_
      refine w_aload_n dX12_propose_153 rfl ?_
      refine w_getR dX12_propose_154 f_12_90 t_12_28 g1 ?_
      refine w_iload dX12_propose_157 rfl ?_
      refine w_iaload dX12_propose_159 g6 g7 ?_
      exact k
    · replace k := k.2 c
      refine w_iload_n dX12_propose_135 rfl ?_
      refine w_goto (pc' := 146) dX12_propose_136 rfl rfl ?_
      obtain ⟨g12, k⟩ := k
      obtain ⟨g13, k⟩ := k
      refine w_iastore dX12_propose_146 g12 g13 ?_
      refine w_aload_n dX12_propose_147 rfl ?_
      refine w_getR dX12_propose_148 f_12_108 t_12_34 g1 ?_
      refine w_iload dX12_propose_151 rfl ?_
      refine w_aload_n dX12_propose_153 rfl ?_
      refine w_getR dX12_propose_154 f_12_90 t_12_28 g1 ?_
      refine w_iload dX12_propose_157 rfl ?_
      refine w_iaload dX12_propose_159 g6 g7 ?_
      exact k
  · replace k := k.2 c
    refine w_iinc (lo' := [some (.ref v0), some (.int v1), some (.int v2), some (.int v3), some (.int v4), some (.int v5), some (.int (v6 + (8 : Int32))), u7, u8]) dX12_propose_94 rfl i1_8 rfl ?_
    refine w_goto (pc' := 82) dX12_propose_97 rfl rfl ?_
    exact k
theorem bX12_propose_160 {d : Nat} {h : HP} {Q : Out → HP → Prop} {v0 : Nat} {v1 : Int32} {v2 : Int32} {v3 : Int32} {v4 : Int32} {v5 : Int32} {v6 : Int32} {u7 : Option Value} {u8 : Option Value} {s0 : Int32} {s1 : Int32} {s2 : Nat} (k : (hK h s2 = 20) ∧ ((inA h s2 s1 = true) ∧ ((hK h v0 = 12) ∧ ((hK h (hR h 1233 v0) = 20) ∧ ((inA h (hR h 1233 v0) v5 = true) ∧ ((hK h (hR h 1235 v0) = 21) ∧ ((inA h (hR h 1235 v0) v5 = true) ∧ ((hK h (hR h 1236 v0) = 20) ∧ ((inA h (hR h 1236 v0) v5 = true) ∧ (WP d mX12_propose 190 [some (.ref v0), some (.int v1), some (.int v2), some (.int v3), some (.int v4), some (.int v5), some (.int v6), some (.int (0 : Int32)), u8] [] (sAI (sAI (sAI (sAI h s2 (s1).toNatClampNeg s0) (hR h 1233 v0) (v5).toNatClampNeg ((1 : Int32) <<< (v1 &&& 31))) (hR h 1235 v0) (v5).toNatClampNeg (0 : Int32)) (hR h 1236 v0) (v5).toNatClampNeg (0 : Int32)) Q)))))))))) : WP d mX12_propose 160 [some (.ref v0), some (.int v1), some (.int v2), some (.int v3), some (.int v4), some (.int v5), some (.int v6), u7, u8] [.int s0, .int s1, .ref s2] h Q := by
  obtain ⟨g1, k⟩ := k
  obtain ⟨g2, k⟩ := k
  refine w_iastore dX12_propose_160 g1 g2 ?_
  refine w_aload_n dX12_propose_161 rfl ?_
  obtain ⟨g3, k⟩ := k
  refine w_getR dX12_propose_162 f_12_105 t_12_33 g3 ?_
  refine w_iload dX12_propose_165 rfl ?_
  refine w_iconst dX12_propose_167 i1_1 ?_
  refine w_iload_n dX12_propose_168 rfl ?_
  refine w_ishl dX12_propose_169 ?_
  obtain ⟨g4, k⟩ := k
  obtain ⟨g5, k⟩ := k
  refine w_iastore dX12_propose_170 g4 g5 ?_
  refine w_aload_n dX12_propose_171 rfl ?_
  refine w_getR dX12_propose_172 f_12_111 t_12_35 g3 ?_
  refine w_iload dX12_propose_175 rfl ?_
  refine w_iconst dX12_propose_177 i1_0 ?_
  obtain ⟨g6, k⟩ := k
  obtain ⟨g7, k⟩ := k
  refine w_bastore dX12_propose_178 g6 g7 rfl ?_
  refine w_aload_n dX12_propose_179 rfl ?_
  refine w_getR dX12_propose_180 f_12_114 t_12_36 g3 ?_
  refine w_iload dX12_propose_183 rfl ?_
  refine w_iconst dX12_propose_185 i1_0 ?_
  obtain ⟨g8, k⟩ := k
  obtain ⟨g9, k⟩ := k
  refine w_iastore dX12_propose_186 g8 g9 ?_
  refine w_iconst dX12_propose_187 i1_0 ?_
  refine w_istore (lo' := [some (.ref v0), some (.int v1), some (.int v2), some (.int v3), some (.int v4), some (.int v5), some (.int v6), some (.int (0 : Int32)), u8]) dX12_propose_188 (ltQ rfl) rfl ?_
  exact k
theorem bX12_propose_190 {d : Nat} {h : HP} {Q : Out → HP → Prop} {v0 : Nat} {v1 : Int32} {v2 : Int32} {v3 : Int32} {v4 : Int32} {v5 : Int32} {v6 : Int32} {v7 : Int32} {u8 : Option Value} (k : (hK h v0 = 12) ∧ ((((hI h 1200 v0) ≤ v7) → (1 < v0) ∧ (WP d mX12_ends 0 [some (.ref v0), none] [] h (KK d mX12_propose mX12_ends 241 [some (.ref v0), some (.int v1), some (.int v2), some (.int v3), some (.int v4), some (.int v5), some (.int v6), some (.int v7), u8] [] Q))) ∧ ((¬ ((hI h 1200 v0) ≤ v7)) → ((v7 = v1) → WP (d + 1) mX12_propose 190 [some (.ref v0), some (.int v1), some (.int v2), some (.int v3), some (.int v4), some (.int v5), some (.int v6), some (.int (v7 + (1 : Int32))), u8] [] h Q) ∧ ((¬ (v7 = v1)) → (1 < v0) ∧ (WP d mX12_sends 0 [some (.ref v0), some (.int (4 : Int32)), some (.int v1), some (.int v7), some (.int v6), none, none] [] h (KK d mX12_propose mX12_sends 212 [some (.ref v0), some (.int v1), some (.int v2), some (.int v3), some (.int v4), some (.int v5), some (.int v6), some (.int v7), u8] [] Q)))))) : WP (d + 1) mX12_propose 190 [some (.ref v0), some (.int v1), some (.int v2), some (.int v3), some (.int v4), some (.int v5), some (.int v6), some (.int v7), u8] [] h Q := by
  refine w_iload dX12_propose_190 rfl ?_
  refine w_aload_n dX12_propose_192 rfl ?_
  obtain ⟨g1, k⟩ := k
  refine w_getI dX12_propose_193 f_12_7 t_12_0 g1 ?_
  refine w_ic_ge (pc' := 240) dX12_propose_196 rfl rfl ⟨fun c => ?_, fun c => ?_⟩
  · replace k := k.1 c
    refine w_aload_n dX12_propose_240 rfl ?_
    obtain ⟨g2, k⟩ := k
    exact w_virt (as1 := [.ref v0]) (as2 := [.ref v0]) (rest := []) (lo2 := [some (.ref v0), none]) dX12_propose_241 c_12_187 rfl rfl rfl (Nat.le_of_ble_eq_true rfl) (Nat.le_of_ble_eq_true rfl) rfl (Nat.le_of_ble_eq_true rfl) rfl rfl g2 g1 k
  · replace k := k.2 c
    refine w_iload dX12_propose_199 rfl ?_
    refine w_iload_n dX12_propose_201 rfl ?_
    refine w_ic_eq (pc' := 234) dX12_propose_202 rfl rfl ⟨fun c => ?_, fun c => ?_⟩
    · replace k := k.1 c
      refine w_iinc (lo' := [some (.ref v0), some (.int v1), some (.int v2), some (.int v3), some (.int v4), some (.int v5), some (.int v6), some (.int (v7 + (1 : Int32))), u8]) dX12_propose_234 rfl i1_1 rfl ?_
      refine w_goto (pc' := 190) dX12_propose_237 rfl rfl ?_
      exact k
    · replace k := k.2 c
      refine w_aload_n dX12_propose_205 rfl ?_
      refine w_iconst dX12_propose_206 i1_4 ?_
      refine w_iload_n dX12_propose_207 rfl ?_
      refine w_iload dX12_propose_208 rfl ?_
      refine w_iload dX12_propose_210 rfl ?_
      obtain ⟨g3, k⟩ := k
      exact w_virt (as1 := [.int v6, .int v7, .int v1, .int (4 : Int32), .ref v0]) (as2 := [.ref v0, .int (4 : Int32), .int v1, .int v7, .int v6]) (rest := []) (lo2 := [some (.ref v0), some (.int (4 : Int32)), some (.int v1), some (.int v7), some (.int v6), none, none]) dX12_propose_212 c_12_229 rfl rfl rfl (Nat.le_of_ble_eq_true rfl) (Nat.le_of_ble_eq_true rfl) rfl (Nat.le_of_ble_eq_true rfl) rfl rfl g3 g1 k
theorem bX12_propose_215 {d : Nat} {h : HP} {Q : Out → HP → Prop} {v0 : Nat} {v1 : Int32} {v2 : Int32} {v3 : Int32} {v4 : Int32} {v5 : Int32} {v6 : Int32} {v7 : Int32} {u8 : Option Value} {s0 : Int32} (k : ((s0 = (-1 : Int32)) → WP d mX12_propose 190 [some (.ref v0), some (.int v1), some (.int v2), some (.int v3), some (.int v4), some (.int v5), some (.int v6), some (.int (v7 + (1 : Int32))), some (.int s0)] [] h Q) ∧ ((¬ (s0 = (-1 : Int32))) → (hK h v0 = 12) ∧ ((hK h (hR h 1237 v0) = 20) ∧ ((inA h (hR h 1237 v0) (s0 + (6 : Int32)) = true) ∧ (WP d mX12_propose 190 [some (.ref v0), some (.int v1), some (.int v2), some (.int v3), some (.int v4), some (.int v5), some (.int v6), some (.int (v7 + (1 : Int32))), some (.int s0)] [] (sAI h (hR h 1237 v0) ((s0 + (6 : Int32))).toNatClampNeg v2) Q))))) : WP d mX12_propose 215 [some (.ref v0), some (.int v1), some (.int v2), some (.int v3), some (.int v4), some (.int v5), some (.int v6), some (.int v7), u8] [.int s0] h Q := by
  refine w_istore (lo' := [some (.ref v0), some (.int v1), some (.int v2), some (.int v3), some (.int v4), some (.int v5), some (.int v6), some (.int v7), some (.int s0)]) dX12_propose_215 (ltQ rfl) rfl ?_
  refine w_iload dX12_propose_217 rfl ?_
  refine w_iconst dX12_propose_219 i1_m1 ?_
  refine w_ic_eq (pc' := 234) dX12_propose_220 rfl rfl ⟨fun c => ?_, fun c => ?_⟩
  · replace k := k.1 c
    refine w_iinc (lo' := [some (.ref v0), some (.int v1), some (.int v2), some (.int v3), some (.int v4), some (.int v5), some (.int v6), some (.int (v7 + (1 : Int32))), some (.int s0)]) dX12_propose_234 rfl i1_1 rfl ?_
    refine w_goto (pc' := 190) dX12_propose_237 rfl rfl ?_
    exact k
  · replace k := k.2 c
    refine w_aload_n dX12_propose_223 rfl ?_
    obtain ⟨g1, k⟩ := k
    refine w_getR dX12_propose_224 f_12_117 t_12_37 g1 ?_
    refine w_iload dX12_propose_227 rfl ?_
    refine w_bipush dX12_propose_229 i2_6 ?_
    refine w_iadd dX12_propose_231 ?_
    refine w_iload_n dX12_propose_232 rfl ?_
    obtain ⟨g2, k⟩ := k
    obtain ⟨g3, k⟩ := k
    refine w_iastore dX12_propose_233 g2 g3 ?_
    refine w_iinc (lo' := [some (.ref v0), some (.int v1), some (.int v2), some (.int v3), some (.int v4), some (.int v5), some (.int v6), some (.int (v7 + (1 : Int32))), some (.int s0)]) dX12_propose_234 rfl i1_1 rfl ?_
    refine w_goto (pc' := 190) dX12_propose_237 rfl rfl ?_
    exact k
theorem bX12_propose_244 {d : Nat} {h : HP} {Q : Out → HP → Prop} {v0 : Nat} {v1 : Int32} {v2 : Int32} {v3 : Int32} {v4 : Int32} {v5 : Int32} {v6 : Int32} {v7 : Int32} {u8 : Option Value} (k : Q (.inl (some (.int v6))) h) : WP d mX12_propose 244 [some (.ref v0), some (.int v1), some (.int v2), some (.int v3), some (.int v4), some (.int v5), some (.int v6), some (.int v7), u8] [] h Q := by
  refine w_iload dX12_propose_244 rfl ?_
  exact w_ireturn dX12_propose_246 rfl k
