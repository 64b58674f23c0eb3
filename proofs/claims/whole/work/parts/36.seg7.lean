/-! ===== segments: what the program does from a place to the next ===== -/
theorem bX12_prepared_0 {d : Nat} {h : HP} {Q : Out → HP → Prop} {v0 : Nat} {v1 : Int32} {u2 : Option Value} {u3 : Option Value} (k : (hK h v0 = 12) ∧ ((hK h (hR h 1249 v0) = 20) ∧ ((inA h (hR h 1249 v0) (6 : Int32) = true) ∧ ((inA h (hR h 1249 v0) (3 : Int32) = true) ∧ ((hK h (hR h 1227 v0) = 20) ∧ ((inA h (hR h 1227 v0) (((4 : Int32) * v1) + (hAI h (hR h 1249 v0) ((6 : Int32)).toNatClampNeg)) = true) ∧ ((((hAI h (hR h 1249 v0) ((3 : Int32)).toNatClampNeg) ≤ (hAI h (hR h 1227 v0) ((((4 : Int32) * v1) + (hAI h (hR h 1249 v0) ((6 : Int32)).toNatClampNeg))).toNatClampNeg)) → Q (.inl none) h) ∧ ((¬ ((hAI h (hR h 1249 v0) ((3 : Int32)).toNatClampNeg) ≤ (hAI h (hR h 1227 v0) ((((4 : Int32) * v1) + (hAI h (hR h 1249 v0) ((6 : Int32)).toNatClampNeg))).toNatClampNeg))) → (inA h (hR h 1249 v0) (1 : Int32) = true) ∧ (WP d mX12_prepared 54 [some (.ref v0), some (.int v1), some (.int (((4 : Int32) * v1) + (hAI h (hR h 1249 v0) ((6 : Int32)).toNatClampNeg))), u3] [.int (hAI (sAI h (hR h 1227 v0) ((((4 : Int32) * v1) + (hAI h (hR h 1249 v0) ((6 : Int32)).toNatClampNeg))).toNatClampNeg (hAI h (hR h 1249 v0) ((3 : Int32)).toNatClampNeg)) (hR h 1249 v0) ((3 : Int32)).toNatClampNeg), .int (hAI (sAI h (hR h 1227 v0) ((((4 : Int32) * v1) + (hAI h (hR h 1249 v0) ((6 : Int32)).toNatClampNeg))).toNatClampNeg (hAI h (hR h 1249 v0) ((3 : Int32)).toNatClampNeg)) (hR h 1249 v0) ((1 : Int32)).toNatClampNeg), .int v1, .int (5 : Int32), .ref v0] (sAI h (hR h 1227 v0) ((((4 : Int32) * v1) + (hAI h (hR h 1249 v0) ((6 : Int32)).toNatClampNeg))).toNatClampNeg (hAI h (hR h 1249 v0) ((3 : Int32)).toNatClampNeg)) Q))))))))) : WP d mX12_prepared 0 [some (.ref v0), some (.int v1), u2, u3] [] h Q := by
  refine w_iconst dX12_prepared_0 i1_4 ?_
  refine w_iload_n dX12_prepared_1 rfl ?_
  refine w_imul dX12_prepared_2 ?_
  refine w_aload_n dX12_prepared_3 rfl ?_
  obtain ⟨g1, k⟩ := k
  refine w_getR dX12_prepared_4 f_12_144 t_12_49 g1 ?_
  refine w_bipush dX12_prepared_7 i2_6 ?_
  obtain ⟨g2, k⟩ := k
  obtain ⟨g3, k⟩ := k
  refine w_iaload dX12_prepared_9 g2 g3 ?_
  refine w_iadd dX12_prepared_10 ?_
  refine w_istore_n (lo' := [some (.ref v0), some (.int v1), some (.int (((4 : Int32) * v1) + (hAI h (hR h 1249 v0) ((6 : Int32)).toNatClampNeg))), u3]) dX12_prepared_11 (ltQ rfl) rfl ?_
  refine w_aload_n dX12_prepared_12 rfl ?_
  refine w_getR dX12_prepared_13 f_12_144 t_12_49 g1 ?_
  refine w_iconst dX12_prepared_16 i1_3 ?_
  obtain ⟨g4, k⟩ := k
  refine w_iaload dX12_prepared_17 g2 g4 ?_
  refine w_aload_n dX12_prepared_18 rfl ?_
  refine w_getR dX12_prepared_19 f_12_87 t_12_27 g1 ?_
  refine w_iload_n dX12_prepared_22 rfl ?_
  obtain ⟨g5, k⟩ := k
  obtain ⟨g6, k⟩ := k
  refine w_iaload dX12_prepared_23 g5 g6 ?_
  refine w_ic_le (pc' := 107) dX12_prepared_24 rfl rfl ⟨fun c => ?_, fun c => ?_⟩
  · replace k := k.1 c
    exact w_return dX12_prepared_107 rfl k
  · replace k := k.2 c
    refine w_aload_n dX12_prepared_27 rfl ?_
    refine w_getR dX12_prepared_28 f_12_87 t_12_27 g1 ?_
    refine w_iload_n dX12_prepared_31 rfl ?_
    refine w_aload_n dX12_prepared_32 rfl ?_
    refine w_getR dX12_prepared_33 f_12_144 t_12_49 g1 ?_
    refine w_iconst dX12_prepared_36 i1_3 ?_
    refine w_iaload dX12_prepared_37 g2 g4 ?_
    refine w_iastore dX12_prepared_38 g5 g6 ?_
    refine w_aload_n dX12_prepared_39 rfl ?_
    refine w_iconst dX12_prepared_40 i1_5 ?_
    refine w_iload_n dX12_prepared_41 rfl ?_
    refine w_aload_n dX12_prepared_42 rfl ?_
    refine w_getR dX12_prepared_43 f_12_144 t_12_49 g1 ?_
    refine w_iconst dX12_prepared_46 i1_1 ?_
    obtain ⟨g7, k⟩ := k
    refine w_iaload dX12_prepared_47 g2 g7 ?_
    refine w_aload_n dX12_prepared_48 rfl ?_
    refine w_getR dX12_prepared_49 f_12_144 t_12_49 g1 ?_
    refine w_iconst dX12_prepared_52 i1_3 ?_
    refine w_iaload dX12_prepared_53 g2 g4 ?_
    exact k
theorem bX12_prepared_54 {d : Nat} {h : HP} {Q : Out → HP → Prop} {v0 : Nat} {v1 : Int32} {v2 : Int32} {u3 : Option Value} {s0 : Int32} {s1 : Int32} {s2 : Int32} {s3 : Int32} {s4 : Nat} (k : (1 < s4) ∧ ((hK h s4 = 12) ∧ (WP d mX12_sends 0 [some (.ref s4), some (.int s3), some (.int s2), some (.int s1), some (.int s0), none, none] [] h (KK d mX12_prepared mX12_sends 54 [some (.ref v0), some (.int v1), some (.int v2), u3] [] Q)))) : WP (d + 1) mX12_prepared 54 [some (.ref v0), some (.int v1), some (.int v2), u3] [.int s0, .int s1, .int s2, .int s3, .ref s4] h Q := by
  obtain ⟨g1, k⟩ := k
  obtain ⟨g2, k⟩ := k
  exact w_virt (as1 := [.int s0, .int s1, .int s2, .int s3, .ref s4]) (as2 := [.ref s4, .int s3, .int s2, .int s1, .int s0]) (rest := []) (lo2 := [some (.ref s4), some (.int s3), some (.int s2), some (.int s1), some (.int s0), none, none]) dX12_prepared_54 c_12_229 rfl rfl rfl (Nat.le_of_ble_eq_true rfl) (Nat.le_of_ble_eq_true rfl) rfl (Nat.le_of_ble_eq_true rfl) rfl rfl g1 g2 k
theorem bX12_prepared_57 {d : Nat} {h : HP} {Q : Out → HP → Prop} {v0 : Nat} {v1 : Int32} {v2 : Int32} {u3 : Option Value} {s0 : Int32} (k : ((s0 = (-1 : Int32)) → Q (.inl none) h) ∧ ((¬ (s0 = (-1 : Int32))) → (hK h v0 = 12) ∧ ((hK h (hR h 1228 v0) = 20) ∧ ((inA h (hR h 1228 v0) v2 = true) ∧ ((hK h (hR h 1237 v0) = 20) ∧ ((inA h (hR h 1237 v0) (s0 + (4 : Int32)) = true) ∧ ((hK h (hR h 1229 v0) = 20) ∧ ((inA h (hR h 1229 v0) v2 = true) ∧ ((inA h (hR h 1237 v0) (s0 + (5 : Int32)) = true) ∧ ((hK h (hR h 1249 v0) = 20) ∧ ((inA h (hR h 1249 v0) (6 : Int32) = true) ∧ (WP d mX12_prepared 106 [some (.ref v0), some (.int v1), some (.int v2), some (.int s0)] [.int (hAI (sAI (sAI h (hR h 1237 v0) ((s0 + (4 : Int32))).toNatClampNeg (hAI h (hR h 1228 v0) (v2).toNatClampNeg)) (hR h 1237 v0) ((s0 + (5 : Int32))).toNatClampNeg (hAI (sAI h (hR h 1237 v0) ((s0 + (4 : Int32))).toNatClampNeg (hAI h (hR h 1228 v0) (v2).toNatClampNeg)) (hR h 1229 v0) (v2).toNatClampNeg)) (hR h 1249 v0) ((6 : Int32)).toNatClampNeg), .int (s0 + (6 : Int32)), .ref (hR h 1237 v0)] (sAI (sAI h (hR h 1237 v0) ((s0 + (4 : Int32))).toNatClampNeg (hAI h (hR h 1228 v0) (v2).toNatClampNeg)) (hR h 1237 v0) ((s0 + (5 : Int32))).toNatClampNeg (hAI (sAI h (hR h 1237 v0) ((s0 + (4 : Int32))).toNatClampNeg (hAI h (hR h 1228 v0) (v2).toNatClampNeg)) (hR h 1229 v0) (v2).toNatClampNeg)) Q)))))))))))) : WP d mX12_prepared 57 [some (.ref v0), some (.int v1), some (.int v2), u3] [.int s0] h Q := by
  refine w_istore_n (lo' := [some (.ref v0), some (.int v1), some (.int v2), some (.int s0)]) dX12_prepared_57 (ltQ rfl) rfl ?_
  refine w_iload_n dX12_prepared_58 rfl ?_
  refine w_iconst dX12_prepared_59 i1_m1 ?_
  refine w_ic_eq (pc' := 107) dX12_prepared_60 rfl rfl ⟨fun c => ?_, fun c => ?_⟩
  · replace k := k.1 c
    exact w_return dX12_prepared_107 rfl k
  · replace k := k.2 c
    refine w_aload_n dX12_prepared_63 rfl ?_
    obtain ⟨g1, k⟩ := k
    refine w_getR dX12_prepared_64 f_12_117 t_12_37 g1 ?_
    refine w_iload_n dX12_prepared_67 rfl ?_
    refine w_iconst dX12_prepared_68 i1_4 ?_
    refine w_iadd dX12_prepared_69 ?_
    refine w_aload_n dX12_prepared_70 rfl ?_
    refine w_getR dX12_prepared_71 f_12_90 t_12_28 g1 ?_
    refine w_iload_n dX12_prepared_74 rfl ?_
    obtain ⟨g2, k⟩ := k
    obtain ⟨g3, k⟩ := k
    refine w_iaload dX12_prepared_75 g2 g3 ?_
    obtain ⟨g4, k⟩ := k
    obtain ⟨g5, k⟩ := k
    refine w_iastore dX12_prepared_76 g4 g5 ?_
    refine w_aload_n dX12_prepared_77 rfl ?_
    refine w_getR dX12_prepared_78 f_12_117 t_12_37 g1 ?_
    refine w_iload_n dX12_prepared_81 rfl ?_
    refine w_iconst dX12_prepared_82 i1_5 ?_
    refine w_iadd dX12_prepared_83 ?_
    refine w_aload_n dX12_prepared_84 rfl ?_
    refine w_getR dX12_prepared_85 f_12_93 t_12_29 g1 ?_
    refine w_iload_n dX12_prepared_88 rfl ?_
    obtain ⟨g6, k⟩ := k
    obtain ⟨g7, k⟩ := k
    refine w_iaload dX12_prepared_89 g6 g7 ?_
    obtain ⟨g8, k⟩ := k
    refine w_iastore dX12_prepared_90 g4 g8 ?_
    refine w_aload_n dX12_prepared_91 rfl ?_
    refine w_getR dX12_prepared_92 f_12_117 t_12_37 g1 ?_
    refine w_iload_n dX12_prepared_95 rfl ?_
    refine w_bipush dX12_prepared_96 i2_6 ?_
    refine w_iadd dX12_prepared_98 ?_
    refine w_aload_n dX12_prepared_99 rfl ?_
    refine w_getR dX12_prepared_100 f_12_144 t_12_49 g1 ?_
    refine w_bipush dX12_prepared_103 i2_6 ?_
    obtain ⟨g9, k⟩ := k
    obtain ⟨g10, k⟩ := k
    refine w_iaload dX12_prepared_105 g9 g10 ?_
    exact k
theorem bX12_prepared_106 {d : Nat} {h : HP} {Q : Out → HP → Prop} {v0 : Nat} {v1 : Int32} {v2 : Int32} {v3 : Int32} {s0 : Int32} {s1 : Int32} {s2 : Nat} (k : (hK h s2 = 20) ∧ ((inA h s2 s1 = true) ∧ (Q (.inl none) (sAI h s2 (s1).toNatClampNeg s0)))) : WP d mX12_prepared 106 [some (.ref v0), some (.int v1), some (.int v2), some (.int v3)] [.int s0, .int s1, .ref s2] h Q := by
  obtain ⟨g1, k⟩ := k
  obtain ⟨g2, k⟩ := k
  refine w_iastore dX12_prepared_106 g1 g2 ?_
  exact w_return dX12_prepared_107 rfl k
theorem bX12_promised_0 {d : Nat} {h : HP} {Q : Out → HP → Prop} {v0 : Nat} {v1 : Int32} {u2 : Option Value} {u3 : Option Value} {u4 : Option Value} (k : (hK h v0 = 12) ∧ ((hK h (hR h 1249 v0) = 20) ∧ ((inA h (hR h 1249 v0) (6 : Int32) = true) ∧ ((hK h (hR h 1231 v0) = 20) ∧ ((inA h (hR h 1231 v0) (((4 : Int32) * v1) + (hAI h (hR h 1249 v0) ((6 : Int32)).toNatClampNeg)) = true) ∧ ((inA h (hR h 1249 v0) (3 : Int32) = true) ∧ (((¬ (hAI h (hR h 1231 v0) ((((4 : Int32) * v1) + (hAI h (hR h 1249 v0) ((6 : Int32)).toNatClampNeg))).toNatClampNeg) = (hAI h (hR h 1249 v0) ((3 : Int32)).toNatClampNeg)) → Q (.inl none) h) ∧ ((¬ (¬ (hAI h (hR h 1231 v0) ((((4 : Int32) * v1) + (hAI h (hR h 1249 v0) ((6 : Int32)).toNatClampNeg))).toNatClampNeg) = (hAI h (hR h 1249 v0) ((3 : Int32)).toNatClampNeg))) → (hK h (hR h 1227 v0) = 20) ∧ ((inA h (hR h 1227 v0) (((4 : Int32) * v1) + (hAI h (hR h 1249 v0) ((6 : Int32)).toNatClampNeg)) = true) ∧ (((¬ (hAI h (hR h 1227 v0) ((((4 : Int32) * v1) + (hAI h (hR h 1249 v0) ((6 : Int32)).toNatClampNeg))).toNatClampNeg) = (hAI h (hR h 1249 v0) ((3 : Int32)).toNatClampNeg)) → Q (.inl none) h) ∧ ((¬ (¬ (hAI h (hR h 1227 v0) ((((4 : Int32) * v1) + (hAI h (hR h 1249 v0) ((6 : Int32)).toNatClampNeg))).toNatClampNeg) = (hAI h (hR h 1249 v0) ((3 : Int32)).toNatClampNeg))) → (hK h (hR h 1235 v0) = 21) ∧ ((inA h (hR h 1235 v0) (((4 : Int32) * v1) + (hAI h (hR h 1249 v0) ((6 : Int32)).toNatClampNeg)) = true) ∧ ((((hAI h (hR h 1235 v0) ((((4 : Int32) * v1) + (hAI h (hR h 1249 v0) ((6 : Int32)).toNatClampNeg))).toNatClampNeg) = 0) → (hK h (hR h 1233 v0) = 20) ∧ ((inA h (hR h 1233 v0) (((4 : Int32) * v1) + (hAI h (hR h 1249 v0) ((6 : Int32)).toNatClampNeg)) = true) ∧ ((inA h (hR h 1249 v0) (1 : Int32) = true) ∧ ((inA h (hR h 1249 v0) (4 : Int32) = true) ∧ (WP d mX12_promised 75 [some (.ref v0), some (.int v1), some (.int (((4 : Int32) * v1) + (hAI h (hR h 1249 v0) ((6 : Int32)).toNatClampNeg))), u3, u4] [.int (hAI (sAI h (hR h 1233 v0) ((((4 : Int32) * v1) + (hAI h (hR h 1249 v0) ((6 : Int32)).toNatClampNeg))).toNatClampNeg ((hAI h (hR h 1233 v0) ((((4 : Int32) * v1) + (hAI h (hR h 1249 v0) ((6 : Int32)).toNatClampNeg))).toNatClampNeg) ||| ((1 : Int32) <<< ((hAI h (hR h 1249 v0) ((1 : Int32)).toNatClampNeg) &&& 31)))) (hR h 1249 v0) ((4 : Int32)).toNatClampNeg)] (sAI h (hR h 1233 v0) ((((4 : Int32) * v1) + (hAI h (hR h 1249 v0) ((6 : Int32)).toNatClampNeg))).toNatClampNeg ((hAI h (hR h 1233 v0) ((((4 : Int32) * v1) + (hAI h (hR h 1249 v0) ((6 : Int32)).toNatClampNeg))).toNatClampNeg) ||| ((1 : Int32) <<< ((hAI h (hR h 1249 v0) ((1 : Int32)).toNatClampNeg) &&& 31)))) Q))))) ∧ ((¬ ((hAI h (hR h 1235 v0) ((((4 : Int32) * v1) + (hAI h (hR h 1249 v0) ((6 : Int32)).toNatClampNeg))).toNatClampNeg) = 0)) → Q (.inl none) h)))))))))))))) : WP d mX12_promised 0 [some (.ref v0), some (.int v1), u2, u3, u4] [] h Q := by
  refine w_iconst dX12_promised_0 i1_4 ?_
  refine w_iload_n dX12_promised_1 rfl ?_
  refine w_imul dX12_promised_2 ?_
  refine w_aload_n dX12_promised_3 rfl ?_
  obtain ⟨g1, k⟩ := k
  refine w_getR dX12_promised_4 f_12_144 t_12_49 g1 ?_
  refine w_bipush dX12_promised_7 i2_6 ?_
  obtain ⟨g2, k⟩ := k
  obtain ⟨g3, k⟩ := k
  refine w_iaload dX12_promised_9 g2 g3 ?_
  refine w_iadd dX12_promised_10 ?_
  refine w_istore_n (lo' := [some (.ref v0), some (.int v1), some (.int (((4 : Int32) * v1) + (hAI h (hR h 1249 v0) ((6 : Int32)).toNatClampNeg))), u3, u4]) dX12_promised_11 (ltQ rfl) rfl ?_
  refine w_aload_n dX12_promised_12 rfl ?_
  refine w_getR dX12_promised_13 f_12_99 t_12_31 g1 ?_
  refine w_iload_n dX12_promised_16 rfl ?_
  obtain ⟨g4, k⟩ := k
  obtain ⟨g5, k⟩ := k
  refine w_iaload dX12_promised_17 g4 g5 ?_
  refine w_aload_n dX12_promised_18 rfl ?_
  refine w_getR dX12_promised_19 f_12_144 t_12_49 g1 ?_
  refine w_iconst dX12_promised_22 i1_3 ?_
  obtain ⟨g6, k⟩ := k
  refine w_iaload dX12_promised_23 g2 g6 ?_
  refine w_ic_ne (pc' := 51) dX12_promised_24 rfl rfl ⟨fun c => ?_, fun c => ?_⟩
  · replace k := k.1 c
    exact w_return dX12_promised_51 rfl k
  · replace k := k.2 c
    refine w_aload_n dX12_promised_27 rfl ?_
    refine w_getR dX12_promised_28 f_12_87 t_12_27 g1 ?_
    refine w_iload_n dX12_promised_31 rfl ?_
    obtain ⟨g7, k⟩ := k
    obtain ⟨g8, k⟩ := k
    refine w_iaload dX12_promised_32 g7 g8 ?_
    refine w_aload_n dX12_promised_33 rfl ?_
    refine w_getR dX12_promised_34 f_12_144 t_12_49 g1 ?_
    refine w_iconst dX12_promised_37 i1_3 ?_
    refine w_iaload dX12_promised_38 g2 g6 ?_
    refine w_ic_ne (pc' := 51) dX12_promised_39 rfl rfl ⟨fun c => ?_, fun c => ?_⟩
    · replace k := k.1 c
      exact w_return dX12_promised_51 rfl k
    · replace k := k.2 c
      refine w_aload_n dX12_promised_42 rfl ?_
      refine w_getR dX12_promised_43 f_12_111 t_12_35 g1 ?_
      refine w_iload_n dX12_promised_46 rfl ?_
      obtain ⟨g9, k⟩ := k
      obtain ⟨g10, k⟩ := k
      refine w_baload dX12_promised_47 g9 g10 ?_
      refine w_if_eq (pc' := 52) dX12_promised_48 rfl rfl ⟨fun c => ?_, fun c => ?_⟩
      · replace k := k.1 c
        refine w_aload_n dX12_promised_52 rfl ?_
        refine w_getR dX12_promised_53 f_12_105 t_12_33 g1 ?_
        refine w_iload_n dX12_promised_56 rfl ?_
        refine w_dup2 dX12_promised_57 rfl rfl ?_
        obtain ⟨g11, k⟩ := k
        obtain ⟨g12, k⟩ := k
        refine w_iaload dX12_promised_58 g11 g12 ?_
        refine w_iconst dX12_promised_59 i1_1 ?_
        refine w_aload_n dX12_promised_60 rfl ?_
        refine w_getR dX12_promised_61 f_12_144 t_12_49 g1 ?_
        refine w_iconst dX12_promised_64 i1_1 ?_
        obtain ⟨g13, k⟩ := k
        refine w_iaload dX12_promised_65 g2 g13 ?_
        refine w_ishl dX12_promised_66 ?_
        refine w_ior dX12_promised_67 ?_
        refine w_iastore dX12_promised_68 g11 g12 ?_
        refine w_aload_n dX12_promised_69 rfl ?_
        refine w_getR dX12_promised_70 f_12_144 t_12_49 g1 ?_
        refine w_iconst dX12_promised_73 i1_4 ?_
        obtain ⟨g14, k⟩ := k
        refine w_iaload dX12_promised_74 g2 g14 ?_
        exact k
      · replace k := k.2 c
        exact w_return dX12_promised_51 rfl k
theorem bX12_promised_75 {d : Nat} {h : HP} {Q : Out → HP → Prop} {v0 : Nat} {v1 : Int32} {v2 : Int32} {u3 : Option Value} {u4 : Option Value} {s0 : Int32} (k : (hK h v0 = 12) ∧ ((hK h (hR h 1234 v0) = 20) ∧ ((inA h (hR h 1234 v0) v2 = true) ∧ (((s0 ≤ (hAI h (hR h 1234 v0) (v2).toNatClampNeg)) → (hK h (hR h 1233 v0) = 20) ∧ ((inA h (hR h 1233 v0) v2 = true) ∧ (WP d mX12_promised 114 [some (.ref v0), some (.int v1), some (.int v2), u3, u4] [.int (hAI h (hR h 1233 v0) (v2).toNatClampNeg)] h Q))) ∧ ((¬ (s0 ≤ (hAI h (hR h 1234 v0) (v2).toNatClampNeg))) → (hK h (hR h 1249 v0) = 20) ∧ ((inA h (hR h 1249 v0) (4 : Int32) = true) ∧ ((inA h (hR h 1249 v0) (5 : Int32) = true) ∧ ((hK h (hR h 1232 v0) = 20) ∧ ((inA h (hR h 1232 v0) v2 = true) ∧ ((hK h (hR h 1233 v0) = 20) ∧ ((inA h (hR h 1233 v0) v2 = true) ∧ (WP d mX12_promised 114 [some (.ref v0), some (.int v1), some (.int v2), u3, u4] [.int (hAI (sAI (sAI h (hR h 1234 v0) (v2).toNatClampNeg (hAI h (hR h 1249 v0) ((4 : Int32)).toNatClampNeg)) (hR h 1232 v0) (v2).toNatClampNeg (hAI (sAI h (hR h 1234 v0) (v2).toNatClampNeg (hAI h (hR h 1249 v0) ((4 : Int32)).toNatClampNeg)) (hR h 1249 v0) ((5 : Int32)).toNatClampNeg)) (hR h 1233 v0) (v2).toNatClampNeg)] (sAI (sAI h (hR h 1234 v0) (v2).toNatClampNeg (hAI h (hR h 1249 v0) ((4 : Int32)).toNatClampNeg)) (hR h 1232 v0) (v2).toNatClampNeg (hAI (sAI h (hR h 1234 v0) (v2).toNatClampNeg (hAI h (hR h 1249 v0) ((4 : Int32)).toNatClampNeg)) (hR h 1249 v0) ((5 : Int32)).toNatClampNeg)) Q)))))))))))) : WP d mX12_promised 75 [some (.ref v0), some (.int v1), some (.int v2), u3, u4] [.int s0] h Q := by
  refine w_aload_n dX12_promised_75 rfl ?_
  obtain ⟨g1, k⟩ := k
  refine w_getR dX12_promised_76 f_12_108 t_12_34 g1 ?_
  refine w_iload_n dX12_promised_79 rfl ?_
  obtain ⟨g2, k⟩ := k
  obtain ⟨g3, k⟩ := k
  refine w_iaload dX12_promised_80 g2 g3 ?_
  refine w_ic_le (pc' := 108) dX12_promised_81 rfl rfl ⟨fun c => ?_, fun c => ?_⟩
  · replace k := k.1 c
    refine w_aload_n dX12_promised_108 rfl ?_
    refine w_getR dX12_promised_109 f_12_105 t_12_33 g1 ?_
    refine w_iload_n dX12_promised_112 rfl ?_
    obtain ⟨g4, k⟩ := k
    obtain ⟨g5, k⟩ := k
    refine w_iaload dX12_promised_113 g4 g5 ?_
    exact k
  · replace k := k.2 c
    refine w_aload_n dX12_promised_84 rfl ?_
    refine w_getR dX12_promised_85 f_12_108 t_12_34 g1 ?_
    refine w_iload_n dX12_promised_88 rfl ?_
    refine w_aload_n dX12_promised_89 rfl ?_
    refine w_getR dX12_promised_90 f_12_144 t_12_49 g1 ?_
    refine w_iconst dX12_promised_93 i1_4 ?_
    obtain ⟨g6, k⟩ := k
    obtain ⟨g7, k⟩ := k
    refine w_iaload dX12_promised_94 g6 g7 ?_
    refine w_iastore dX12_promised_95 g2 g3 ?_
    refine w_aload_n dX12_promised_96 rfl ?_
    refine w_getR dX12_promised_97 f_12_102 t_12_32 g1 ?_
    refine w_iload_n dX12_promised_100 rfl ?_
    refine w_aload_n dX12_promised_101 rfl ?_
    refine w_getR dX12_promised_102 f_12_144 t_12_49 g1 ?_
    refine w_iconst dX12_promised_105 i1_5 ?_
    obtain ⟨g8, k⟩ := k
    refine w_iaload dX12_promised_106 g6 g8 ?_
    obtain ⟨g9, k⟩ := k
    obtain ⟨g10, k⟩ := k
    refine w_iastore dX12_promised_107 g9 g10 ?_
    refine w_aload_n dX12_promised_108 rfl ?_
    refine w_getR dX12_promised_109 f_12_105 t_12_33 g1 ?_
    refine w_iload_n dX12_promised_112 rfl ?_
    obtain ⟨g11, k⟩ := k
    obtain ⟨g12, k⟩ := k
    refine w_iaload dX12_promised_113 g11 g12 ?_
    exact k
theorem bX12_promised_114 {d : Nat} {h : HP} {Q : Out → HP → Prop} {v0 : Nat} {v1 : Int32} {v2 : Int32} {u3 : Option Value} {u4 : Option Value} {s0 : Int32} (k : WP d mX12_bits 0 [some (.int s0), none, none] [] h (KK d mX12_promised mX12_bits 114 [some (.ref v0), some (.int v1), some (.int v2), u3, u4] [] Q)) : WP (d + 1) mX12_promised 114 [some (.ref v0), some (.int v1), some (.int v2), u3, u4] [.int s0] h Q := by
  exact w_stat (as1 := [.int s0]) (as2 := [.int s0]) (rest := []) (lo2 := [some (.int s0), none, none]) dX12_promised_114 c_12_237 rfl rfl rfl (Nat.le_of_ble_eq_true rfl) (Nat.le_of_ble_eq_true rfl) rfl (Nat.le_of_ble_eq_true rfl) rfl k
theorem bX12_promised_117 {d : Nat} {h : HP} {Q : Out → HP → Prop} {v0 : Nat} {v1 : Int32} {v2 : Int32} {u3 : Option Value} {u4 : Option Value} {s0 : Int32} (k : (1 < v0) ∧ ((hK h v0 = 12) ∧ (WP d mX12_most 0 [some (.ref v0)] [] h (KK d mX12_promised mX12_most 118 [some (.ref v0), some (.int v1), some (.int v2), u3, u4] [.int s0] Q)))) : WP (d + 1) mX12_promised 117 [some (.ref v0), some (.int v1), some (.int v2), u3, u4] [.int s0] h Q := by
  refine w_aload_n dX12_promised_117 rfl ?_
  obtain ⟨g1, k⟩ := k
  obtain ⟨g2, k⟩ := k
  exact w_virt (as1 := [.ref v0]) (as2 := [.ref v0]) (rest := [.int s0]) (lo2 := [some (.ref v0)]) dX12_promised_118 c_12_241 rfl rfl rfl (Nat.le_of_ble_eq_true rfl) (Nat.le_of_ble_eq_true rfl) rfl (Nat.le_of_ble_eq_true rfl) rfl rfl g1 g2 k
theorem bX12_promised_121 {d : Nat} {h : HP} {Q : Out → HP → Prop} {v0 : Nat} {v1 : Int32} {v2 : Int32} {u3 : Option Value} {u4 : Option Value} {s0 : Int32} {s1 : Int32} (k : ((s0 ≤ s1) → (hK h v0 = 12) ∧ ((hK h (hR h 1235 v0) = 21) ∧ ((inA h (hR h 1235 v0) v2 = true) ∧ ((hK h (hR h 1231 v0) = 20) ∧ ((inA h (hR h 1231 v0) v2 = true) ∧ ((hK h (hR h 1228 v0) = 20) ∧ ((inA h (hR h 1228 v0) v2 = true) ∧ ((hK h (hR h 1232 v0) = 20) ∧ ((inA h (hR h 1232 v0) v2 = true) ∧ ((hK h (hR h 1229 v0) = 20) ∧ ((inA h (hR h 1229 v0) v2 = true) ∧ ((hK h (hR h 1236 v0) = 20) ∧ ((inA h (hR h 1236 v0) v2 = true) ∧ (WP d mX12_promised 165 [some (.ref v0), some (.int v1), some (.int v2), u3, u4] [] (sAI (sAI (sAI (sAI h (hR h 1235 v0) (v2).toNatClampNeg (1 : Int32)) (hR h 1228 v0) (v2).toNatClampNeg (hAI (sAI h (hR h 1235 v0) (v2).toNatClampNeg (1 : Int32)) (hR h 1231 v0) (v2).toNatClampNeg)) (hR h 1229 v0) (v2).toNatClampNeg (hAI (sAI (sAI h (hR h 1235 v0) (v2).toNatClampNeg (1 : Int32)) (hR h 1228 v0) (v2).toNatClampNeg (hAI (sAI h (hR h 1235 v0) (v2).toNatClampNeg (1 : Int32)) (hR h 1231 v0) (v2).toNatClampNeg)) (hR h 1232 v0) (v2).toNatClampNeg)) (hR h 1236 v0) (v2).toNatClampNeg ((1 : Int32) <<< (v1 &&& 31))) Q)))))))))))))) ∧ ((¬ (s0 ≤ s1)) → Q (.inl none) h)) : WP d mX12_promised 121 [some (.ref v0), some (.int v1), some (.int v2), u3, u4] [.int s0, .int s1] h Q := by
  refine w_ic_ge (pc' := 125) dX12_promised_121 rfl rfl ⟨fun c => ?_, fun c => ?_⟩
  · replace k := k.1 c
    refine w_aload_n dX12_promised_125 rfl ?_
    obtain ⟨g1, k⟩ := k
    refine w_getR dX12_promised_126 f_12_111 t_12_35 g1 ?_
    refine w_iload_n dX12_promised_129 rfl ?_
    refine w_iconst dX12_promised_130 i1_1 ?_
    obtain ⟨g2, k⟩ := k
    obtain ⟨g3, k⟩ := k
    refine w_bastore dX12_promised_131 g2 g3 rfl ?_
    refine w_aload_n dX12_promised_132 rfl ?_
    refine w_getR dX12_promised_133 f_12_90 t_12_28 g1 ?_
    refine w_iload_n dX12_promised_136 rfl ?_
    refine w_aload_n dX12_promised_137 rfl ?_
    refine w_getR dX12_promised_138 f_12_99 t_12_31 g1 ?_
    refine w_iload_n dX12_promised_141 rfl ?_
    obtain ⟨g4, k⟩ := k
    obtain ⟨g5, k⟩ := k
    refine w_iaload dX12_promised_142 g4 g5 ?_
    obtain ⟨g6, k⟩ := k
    obtain ⟨g7, k⟩ := k
    refine w_iastore dX12_promised_143 g6 g7 ?_
    refine w_aload_n dX12_promised_144 rfl ?_
    refine w_getR dX12_promised_145 f_12_93 t_12_29 g1 ?_
    refine w_iload_n dX12_promised_148 rfl ?_
    refine w_aload_n dX12_promised_149 rfl ?_
    refine w_getR dX12_promised_150 f_12_102 t_12_32 g1 ?_
    refine w_iload_n dX12_promised_153 rfl ?_
    obtain ⟨g8, k⟩ := k
    obtain ⟨g9, k⟩ := k
    refine w_iaload dX12_promised_154 g8 g9 ?_
    obtain ⟨g10, k⟩ := k
    obtain ⟨g11, k⟩ := k
    refine w_iastore dX12_promised_155 g10 g11 ?_
    refine w_aload_n dX12_promised_156 rfl ?_
    refine w_getR dX12_promised_157 f_12_114 t_12_36 g1 ?_
    refine w_iload_n dX12_promised_160 rfl ?_
    refine w_iconst dX12_promised_161 i1_1 ?_
    refine w_iload_n dX12_promised_162 rfl ?_
    refine w_ishl dX12_promised_163 ?_
    obtain ⟨g12, k⟩ := k
    obtain ⟨g13, k⟩ := k
    refine w_iastore dX12_promised_164 g12 g13 ?_
    exact k
  · replace k := k.2 c
    exact w_return dX12_promised_124 rfl k
theorem bX12_promised_165 {d : Nat} {h : HP} {Q : Out → HP → Prop} {v0 : Nat} {v1 : Int32} {v2 : Int32} {u3 : Option Value} {u4 : Option Value} (k : WP d mX12_promised 167 [some (.ref v0), some (.int v1), some (.int v2), some (.int (0 : Int32)), u4] [] h Q) : WP d mX12_promised 165 [some (.ref v0), some (.int v1), some (.int v2), u3, u4] [] h Q := by
  refine w_iconst dX12_promised_165 i1_0 ?_
  refine w_istore_n (lo' := [some (.ref v0), some (.int v1), some (.int v2), some (.int (0 : Int32)), u4]) dX12_promised_166 (ltQ rfl) rfl ?_
  exact k
theorem bX12_promised_167 {d : Nat} {h : HP} {Q : Out → HP → Prop} {v0 : Nat} {v1 : Int32} {v2 : Int32} {v3 : Int32} {u4 : Option Value} (k : (hK h v0 = 12) ∧ ((((hI h 1200 v0) ≤ v3) → Q (.inl none) h) ∧ ((¬ ((hI h 1200 v0) ≤ v3)) → ((v3 = v1) → WP (d + 1) mX12_promised 167 [some (.ref v0), some (.int v1), some (.int v2), some (.int (v3 + (1 : Int32))), u4] [] h Q) ∧ ((¬ (v3 = v1)) → (hK h (hR h 1231 v0) = 20) ∧ ((inA h (hR h 1231 v0) v2 = true) ∧ ((1 < v0) ∧ (WP d mX12_sends 0 [some (.ref v0), some (.int (6 : Int32)), some (.int v1), some (.int v3), some (.int (hAI h (hR h 1231 v0) (v2).toNatClampNeg)), none, none] [] h (KK d mX12_promised mX12_sends 191 [some (.ref v0), some (.int v1), some (.int v2), some (.int v3), u4] [] Q)))))))) : WP (d + 1) mX12_promised 167 [some (.ref v0), some (.int v1), some (.int v2), some (.int v3), u4] [] h Q := by
  refine w_iload_n dX12_promised_167 rfl ?_
  refine w_aload_n dX12_promised_168 rfl ?_
  obtain ⟨g1, k⟩ := k
  refine w_getI dX12_promised_169 f_12_7 t_12_0 g1 ?_
  refine w_ic_ge (pc' := 241) dX12_promised_172 rfl rfl ⟨fun c => ?_, fun c => ?_⟩
  · replace k := k.1 c
    exact w_return dX12_promised_241 rfl k
  · replace k := k.2 c
    refine w_iload_n dX12_promised_175 rfl ?_
    refine w_iload_n dX12_promised_176 rfl ?_
    refine w_ic_eq (pc' := 235) dX12_promised_177 rfl rfl ⟨fun c => ?_, fun c => ?_⟩
    · replace k := k.1 c
      refine w_iinc (lo' := [some (.ref v0), some (.int v1), some (.int v2), some (.int (v3 + (1 : Int32))), u4]) dX12_promised_235 rfl i1_1 rfl ?_
      refine w_goto (pc' := 167) dX12_promised_238 rfl rfl ?_
      exact k
    · replace k := k.2 c
      refine w_aload_n dX12_promised_180 rfl ?_
      refine w_bipush dX12_promised_181 i2_6 ?_
      refine w_iload_n dX12_promised_183 rfl ?_
      refine w_iload_n dX12_promised_184 rfl ?_
      refine w_aload_n dX12_promised_185 rfl ?_
      refine w_getR dX12_promised_186 f_12_99 t_12_31 g1 ?_
      refine w_iload_n dX12_promised_189 rfl ?_
      obtain ⟨g2, k⟩ := k
      obtain ⟨g3, k⟩ := k
      refine w_iaload dX12_promised_190 g2 g3 ?_
      obtain ⟨g4, k⟩ := k
      exact w_virt (as1 := [.int (hAI h (hR h 1231 v0) (v2).toNatClampNeg), .int v3, .int v1, .int (6 : Int32), .ref v0]) (as2 := [.ref v0, .int (6 : Int32), .int v1, .int v3, .int (hAI h (hR h 1231 v0) (v2).toNatClampNeg)]) (rest := []) (lo2 := [some (.ref v0), some (.int (6 : Int32)), some (.int v1), some (.int v3), some (.int (hAI h (hR h 1231 v0) (v2).toNatClampNeg)), none, none]) dX12_promised_191 c_12_229 rfl rfl rfl (Nat.le_of_ble_eq_true rfl) (Nat.le_of_ble_eq_true rfl) rfl (Nat.le_of_ble_eq_true rfl) rfl rfl g4 g1 k
theorem bX12_promised_194 {d : Nat} {h : HP} {Q : Out → HP → Prop} {v0 : Nat} {v1 : Int32} {v2 : Int32} {v3 : Int32} {u4 : Option Value} {s0 : Int32} (k : ((s0 = (-1 : Int32)) → WP d mX12_promised 167 [some (.ref v0), some (.int v1), some (.int v2), some (.int (v3 + (1 : Int32))), some (.int s0)] [] h Q) ∧ ((¬ (s0 = (-1 : Int32))) → (hK h v0 = 12) ∧ ((hK h (hR h 1249 v0) = 20) ∧ ((inA h (hR h 1249 v0) (6 : Int32) = true) ∧ ((hK h (hR h 1237 v0) = 20) ∧ ((inA h (hR h 1237 v0) (s0 + (6 : Int32)) = true) ∧ ((hK h (hR h 1232 v0) = 20) ∧ ((inA h (hR h 1232 v0) v2 = true) ∧ ((inA h (hR h 1237 v0) (s0 + (9 : Int32)) = true) ∧ (WP d mX12_promised 167 [some (.ref v0), some (.int v1), some (.int v2), some (.int (v3 + (1 : Int32))), some (.int s0)] [] (sAI (sAI h (hR h 1237 v0) ((s0 + (6 : Int32))).toNatClampNeg (hAI h (hR h 1249 v0) ((6 : Int32)).toNatClampNeg)) (hR h 1237 v0) ((s0 + (9 : Int32))).toNatClampNeg (hAI (sAI h (hR h 1237 v0) ((s0 + (6 : Int32))).toNatClampNeg (hAI h (hR h 1249 v0) ((6 : Int32)).toNatClampNeg)) (hR h 1232 v0) (v2).toNatClampNeg)) Q)))))))))) : WP d mX12_promised 194 [some (.ref v0), some (.int v1), some (.int v2), some (.int v3), u4] [.int s0] h Q := by
  refine w_istore (lo' := [some (.ref v0), some (.int v1), some (.int v2), some (.int v3), some (.int s0)]) dX12_promised_194 (ltQ rfl) rfl ?_
  refine w_iload dX12_promised_196 rfl ?_
  refine w_iconst dX12_promised_198 i1_m1 ?_
  refine w_ic_eq (pc' := 235) dX12_promised_199 rfl rfl ⟨fun c => ?_, fun c => ?_⟩
  · replace k := k.1 c
    refine w_iinc (lo' := [some (.ref v0), some (.int v1), some (.int v2), some (.int (v3 + (1 : Int32))), some (.int s0)]) dX12_promised_235 rfl i1_1 rfl ?_
    refine w_goto (pc' := 167) dX12_promised_238 rfl rfl ?_
    exact k
  · replace k := k.2 c
    refine w_aload_n dX12_promised_202 rfl ?_
    obtain ⟨g1, k⟩ := k
    refine w_getR dX12_promised_203 f_12_117 t_12_37 g1 ?_
    refine w_iload dX12_promised_206 rfl ?_
    refine w_bipush dX12_promised_208 i2_6 ?_
    refine w_iadd dX12_promised_210 ?_
    refine w_aload_n dX12_promised_211 rfl ?_
    refine w_getR dX12_promised_212 f_12_144 t_12_49 g1 ?_
    refine w_bipush dX12_promised_215 i2_6 ?_
    obtain ⟨g2, k⟩ := k
    obtain ⟨g3, k⟩ := k
    refine w_iaload dX12_promised_217 g2 g3 ?_
    obtain ⟨g4, k⟩ := k
    obtain ⟨g5, k⟩ := k
    refine w_iastore dX12_promised_218 g4 g5 ?_
    refine w_aload_n dX12_promised_219 rfl ?_
    refine w_getR dX12_promised_220 f_12_117 t_12_37 g1 ?_
    refine w_iload dX12_promised_223 rfl ?_
    refine w_bipush dX12_promised_225 i2_9 ?_
    refine w_iadd dX12_promised_227 ?_
    refine w_aload_n dX12_promised_228 rfl ?_
    refine w_getR dX12_promised_229 f_12_102 t_12_32 g1 ?_
    refine w_iload_n dX12_promised_232 rfl ?_
    obtain ⟨g6, k⟩ := k
    obtain ⟨g7, k⟩ := k
    refine w_iaload dX12_promised_233 g6 g7 ?_
    obtain ⟨g8, k⟩ := k
    refine w_iastore dX12_promised_234 g4 g8 ?_
    refine w_iinc (lo' := [some (.ref v0), some (.int v1), some (.int v2), some (.int (v3 + (1 : Int32))), some (.int s0)]) dX12_promised_235 rfl i1_1 rfl ?_
    refine w_goto (pc' := 167) dX12_promised_238 rfl rfl ?_
    exact k
theorem bX12_accepted_0 {d : Nat} {h : HP} {Q : Out → HP → Prop} {v0 : Nat} {v1 : Int32} {u2 : Option Value} {u3 : Option Value} (k : (hK h v0 = 12) ∧ ((hK h (hR h 1249 v0) = 20) ∧ ((inA h (hR h 1249 v0) (6 : Int32) = true) ∧ ((inA h (hR h 1249 v0) (3 : Int32) = true) ∧ ((hK h (hR h 1227 v0) = 20) ∧ ((inA h (hR h 1227 v0) (((4 : Int32) * v1) + (hAI h (hR h 1249 v0) ((6 : Int32)).toNatClampNeg)) = true) ∧ ((((hAI h (hR h 1249 v0) ((3 : Int32)).toNatClampNeg) < (hAI h (hR h 1227 v0) ((((4 : Int32) * v1) + (hAI h (hR h 1249 v0) ((6 : Int32)).toNatClampNeg))).toNatClampNeg)) → Q (.inl none) h) ∧ ((¬ ((hAI h (hR h 1249 v0) ((3 : Int32)).toNatClampNeg) < (hAI h (hR h 1227 v0) ((((4 : Int32) * v1) + (hAI h (hR h 1249 v0) ((6 : Int32)).toNatClampNeg))).toNatClampNeg))) → WP d mX12_accepted 50 [some (.ref v0), some (.int v1), some (.int (((4 : Int32) * v1) + (hAI h (hR h 1249 v0) ((6 : Int32)).toNatClampNeg))), u3] [.int (hAI (sAI h (hR h 1227 v0) ((((4 : Int32) * v1) + (hAI h (hR h 1249 v0) ((6 : Int32)).toNatClampNeg))).toNatClampNeg (hAI h (hR h 1249 v0) ((3 : Int32)).toNatClampNeg)) (hR h 1249 v0) ((3 : Int32)).toNatClampNeg), .int (((4 : Int32) * v1) + (hAI h (hR h 1249 v0) ((6 : Int32)).toNatClampNeg)), .ref (hR h 1228 v0)] (sAI h (hR h 1227 v0) ((((4 : Int32) * v1) + (hAI h (hR h 1249 v0) ((6 : Int32)).toNatClampNeg))).toNatClampNeg (hAI h (hR h 1249 v0) ((3 : Int32)).toNatClampNeg)) Q)))))))) : WP d mX12_accepted 0 [some (.ref v0), some (.int v1), u2, u3] [] h Q := by
  refine w_iconst dX12_accepted_0 i1_4 ?_
  refine w_iload_n dX12_accepted_1 rfl ?_
  refine w_imul dX12_accepted_2 ?_
  refine w_aload_n dX12_accepted_3 rfl ?_
  obtain ⟨g1, k⟩ := k
  refine w_getR dX12_accepted_4 f_12_144 t_12_49 g1 ?_
  refine w_bipush dX12_accepted_7 i2_6 ?_
  obtain ⟨g2, k⟩ := k
  obtain ⟨g3, k⟩ := k
  refine w_iaload dX12_accepted_9 g2 g3 ?_
  refine w_iadd dX12_accepted_10 ?_
  refine w_istore_n (lo' := [some (.ref v0), some (.int v1), some (.int (((4 : Int32) * v1) + (hAI h (hR h 1249 v0) ((6 : Int32)).toNatClampNeg))), u3]) dX12_accepted_11 (ltQ rfl) rfl ?_
  refine w_aload_n dX12_accepted_12 rfl ?_
  refine w_getR dX12_accepted_13 f_12_144 t_12_49 g1 ?_
  refine w_iconst dX12_accepted_16 i1_3 ?_
  obtain ⟨g4, k⟩ := k
  refine w_iaload dX12_accepted_17 g2 g4 ?_
  refine w_aload_n dX12_accepted_18 rfl ?_
  refine w_getR dX12_accepted_19 f_12_87 t_12_27 g1 ?_
  refine w_iload_n dX12_accepted_22 rfl ?_
  obtain ⟨g5, k⟩ := k
  obtain ⟨g6, k⟩ := k
  refine w_iaload dX12_accepted_23 g5 g6 ?_
  refine w_ic_lt (pc' := 105) dX12_accepted_24 rfl rfl ⟨fun c => ?_, fun c => ?_⟩
  · replace k := k.1 c
    exact w_return dX12_accepted_105 rfl k
  · replace k := k.2 c
    refine w_aload_n dX12_accepted_27 rfl ?_
    refine w_getR dX12_accepted_28 f_12_87 t_12_27 g1 ?_
    refine w_iload_n dX12_accepted_31 rfl ?_
    refine w_aload_n dX12_accepted_32 rfl ?_
    refine w_getR dX12_accepted_33 f_12_144 t_12_49 g1 ?_
    refine w_iconst dX12_accepted_36 i1_3 ?_
    refine w_iaload dX12_accepted_37 g2 g4 ?_
    refine w_iastore dX12_accepted_38 g5 g6 ?_
    refine w_aload_n dX12_accepted_39 rfl ?_
    refine w_getR dX12_accepted_40 f_12_90 t_12_28 g1 ?_
    refine w_iload_n dX12_accepted_43 rfl ?_
    refine w_aload_n dX12_accepted_44 rfl ?_
    refine w_getR dX12_accepted_45 f_12_144 t_12_49 g1 ?_
    refine w_iconst dX12_accepted_48 i1_3 ?_
    refine w_iaload dX12_accepted_49 g2 g4 ?_
    exact k
theorem bX12_accepted_50 {d : Nat} {h : HP} {Q : Out → HP → Prop} {v0 : Nat} {v1 : Int32} {v2 : Int32} {u3 : Option Value} {s0 : Int32} {s1 : Int32} {s2 : Nat} (k : (hK h s2 = 20) ∧ ((inA h s2 s1 = true) ∧ ((hK h v0 = 12) ∧ ((hK h (hR h 1249 v0) = 20) ∧ ((inA h (hR h 1249 v0) (9 : Int32) = true) ∧ ((hK h (hR h 1229 v0) = 20) ∧ ((inA h (hR h 1229 v0) v2 = true) ∧ ((inA h (hR h 1249 v0) (1 : Int32) = true) ∧ ((inA h (hR h 1249 v0) (3 : Int32) = true) ∧ (WP d mX12_accepted 80 [some (.ref v0), some (.int v1), some (.int v2), u3] [.int (hAI (sAI (sAI h s2 (s1).toNatClampNeg s0) (hR h 1229 v0) (v2).toNatClampNeg (hAI (sAI h s2 (s1).toNatClampNeg s0) (hR h 1249 v0) ((9 : Int32)).toNatClampNeg)) (hR h 1249 v0) ((3 : Int32)).toNatClampNeg), .int (hAI (sAI (sAI h s2 (s1).toNatClampNeg s0) (hR h 1229 v0) (v2).toNatClampNeg (hAI (sAI h s2 (s1).toNatClampNeg s0) (hR h 1249 v0) ((9 : Int32)).toNatClampNeg)) (hR h 1249 v0) ((1 : Int32)).toNatClampNeg), .int v1, .int (7 : Int32), .ref v0] (sAI (sAI h s2 (s1).toNatClampNeg s0) (hR h 1229 v0) (v2).toNatClampNeg (hAI (sAI h s2 (s1).toNatClampNeg s0) (hR h 1249 v0) ((9 : Int32)).toNatClampNeg)) Q)))))))))) : WP d mX12_accepted 50 [some (.ref v0), some (.int v1), some (.int v2), u3] [.int s0, .int s1, .ref s2] h Q := by
  obtain ⟨g1, k⟩ := k
  obtain ⟨g2, k⟩ := k
  refine w_iastore dX12_accepted_50 g1 g2 ?_
  refine w_aload_n dX12_accepted_51 rfl ?_
  obtain ⟨g3, k⟩ := k
  refine w_getR dX12_accepted_52 f_12_93 t_12_29 g3 ?_
  refine w_iload_n dX12_accepted_55 rfl ?_
  refine w_aload_n dX12_accepted_56 rfl ?_
  refine w_getR dX12_accepted_57 f_12_144 t_12_49 g3 ?_
  refine w_bipush dX12_accepted_60 i2_9 ?_
  obtain ⟨g4, k⟩ := k
  obtain ⟨g5, k⟩ := k
  refine w_iaload dX12_accepted_62 g4 g5 ?_
  obtain ⟨g6, k⟩ := k
  obtain ⟨g7, k⟩ := k
  refine w_iastore dX12_accepted_63 g6 g7 ?_
  refine w_aload_n dX12_accepted_64 rfl ?_
  refine w_bipush dX12_accepted_65 i2_7 ?_
  refine w_iload_n dX12_accepted_67 rfl ?_
  refine w_aload_n dX12_accepted_68 rfl ?_
  refine w_getR dX12_accepted_69 f_12_144 t_12_49 g3 ?_
  refine w_iconst dX12_accepted_72 i1_1 ?_
  obtain ⟨g8, k⟩ := k
  refine w_iaload dX12_accepted_73 g4 g8 ?_
  refine w_aload_n dX12_accepted_74 rfl ?_
  refine w_getR dX12_accepted_75 f_12_144 t_12_49 g3 ?_
  refine w_iconst dX12_accepted_78 i1_3 ?_
  obtain ⟨g9, k⟩ := k
  refine w_iaload dX12_accepted_79 g4 g9 ?_
  exact k
theorem bX12_accepted_80 {d : Nat} {h : HP} {Q : Out → HP → Prop} {v0 : Nat} {v1 : Int32} {v2 : Int32} {u3 : Option Value} {s0 : Int32} {s1 : Int32} {s2 : Int32} {s3 : Int32} {s4 : Nat} (k : (1 < s4) ∧ ((hK h s4 = 12) ∧ (WP d mX12_sends 0 [some (.ref s4), some (.int s3), some (.int s2), some (.int s1), some (.int s0), none, none] [] h (KK d mX12_accepted mX12_sends 80 [some (.ref v0), some (.int v1), some (.int v2), u3] [] Q)))) : WP (d + 1) mX12_accepted 80 [some (.ref v0), some (.int v1), some (.int v2), u3] [.int s0, .int s1, .int s2, .int s3, .ref s4] h Q := by
  obtain ⟨g1, k⟩ := k
  obtain ⟨g2, k⟩ := k
  exact w_virt (as1 := [.int s0, .int s1, .int s2, .int s3, .ref s4]) (as2 := [.ref s4, .int s3, .int s2, .int s1, .int s0]) (rest := []) (lo2 := [some (.ref s4), some (.int s3), some (.int s2), some (.int s1), some (.int s0), none, none]) dX12_accepted_80 c_12_229 rfl rfl rfl (Nat.le_of_ble_eq_true rfl) (Nat.le_of_ble_eq_true rfl) rfl (Nat.le_of_ble_eq_true rfl) rfl rfl g1 g2 k
theorem bX12_accepted_83 {d : Nat} {h : HP} {Q : Out → HP → Prop} {v0 : Nat} {v1 : Int32} {v2 : Int32} {u3 : Option Value} {s0 : Int32} (k : ((s0 = (-1 : Int32)) → Q (.inl none) h) ∧ ((¬ (s0 = (-1 : Int32))) → (hK h v0 = 12) ∧ ((hK h (hR h 1249 v0) = 20) ∧ ((inA h (hR h 1249 v0) (6 : Int32) = true) ∧ ((hK h (hR h 1237 v0) = 20) ∧ ((inA h (hR h 1237 v0) (s0 + (6 : Int32)) = true) ∧ (Q (.inl none) (sAI h (hR h 1237 v0) ((s0 + (6 : Int32))).toNatClampNeg (hAI h (hR h 1249 v0) ((6 : Int32)).toNatClampNeg))))))))) : WP d mX12_accepted 83 [some (.ref v0), some (.int v1), some (.int v2), u3] [.int s0] h Q := by
  refine w_istore_n (lo' := [some (.ref v0), some (.int v1), some (.int v2), some (.int s0)]) dX12_accepted_83 (ltQ rfl) rfl ?_
  refine w_iload_n dX12_accepted_84 rfl ?_
  refine w_iconst dX12_accepted_85 i1_m1 ?_
  refine w_ic_eq (pc' := 105) dX12_accepted_86 rfl rfl ⟨fun c => ?_, fun c => ?_⟩
  · replace k := k.1 c
    exact w_return dX12_accepted_105 rfl k
  · replace k := k.2 c
    refine w_aload_n dX12_accepted_89 rfl ?_
    obtain ⟨g1, k⟩ := k
    refine w_getR dX12_accepted_90 f_12_117 t_12_37 g1 ?_
    refine w_iload_n dX12_accepted_93 rfl ?_
    refine w_bipush dX12_accepted_94 i2_6 ?_
    refine w_iadd dX12_accepted_96 ?_
    refine w_aload_n dX12_accepted_97 rfl ?_
    refine w_getR dX12_accepted_98 f_12_144 t_12_49 g1 ?_
    refine w_bipush dX12_accepted_101 i2_6 ?_
    obtain ⟨g2, k⟩ := k
    obtain ⟨g3, k⟩ := k
    refine w_iaload dX12_accepted_103 g2 g3 ?_
    obtain ⟨g4, k⟩ := k
    obtain ⟨g5, k⟩ := k
    refine w_iastore dX12_accepted_104 g4 g5 ?_
    exact w_return dX12_accepted_105 rfl k
theorem bX12_counts_0 {d : Nat} {h : HP} {Q : Out → HP → Prop} {v0 : Nat} {v1 : Int32} {u2 : Option Value} (k : (hK h v0 = 12) ∧ ((hK h (hR h 1249 v0) = 20) ∧ ((inA h (hR h 1249 v0) (6 : Int32) = true) ∧ ((hK h (hR h 1231 v0) = 20) ∧ ((inA h (hR h 1231 v0) (((4 : Int32) * v1) + (hAI h (hR h 1249 v0) ((6 : Int32)).toNatClampNeg)) = true) ∧ ((inA h (hR h 1249 v0) (3 : Int32) = true) ∧ (((¬ (hAI h (hR h 1231 v0) ((((4 : Int32) * v1) + (hAI h (hR h 1249 v0) ((6 : Int32)).toNatClampNeg))).toNatClampNeg) = (hAI h (hR h 1249 v0) ((3 : Int32)).toNatClampNeg)) → Q (.inl none) h) ∧ ((¬ (¬ (hAI h (hR h 1231 v0) ((((4 : Int32) * v1) + (hAI h (hR h 1249 v0) ((6 : Int32)).toNatClampNeg))).toNatClampNeg) = (hAI h (hR h 1249 v0) ((3 : Int32)).toNatClampNeg))) → (hK h (hR h 1235 v0) = 21) ∧ ((inA h (hR h 1235 v0) (((4 : Int32) * v1) + (hAI h (hR h 1249 v0) ((6 : Int32)).toNatClampNeg)) = true) ∧ ((((hAI h (hR h 1235 v0) ((((4 : Int32) * v1) + (hAI h (hR h 1249 v0) ((6 : Int32)).toNatClampNeg))).toNatClampNeg) = 0) → Q (.inl none) h) ∧ ((¬ ((hAI h (hR h 1235 v0) ((((4 : Int32) * v1) + (hAI h (hR h 1249 v0) ((6 : Int32)).toNatClampNeg))).toNatClampNeg) = 0)) → (hK h (hR h 1236 v0) = 20) ∧ ((inA h (hR h 1236 v0) (((4 : Int32) * v1) + (hAI h (hR h 1249 v0) ((6 : Int32)).toNatClampNeg)) = true) ∧ ((inA h (hR h 1249 v0) (1 : Int32) = true) ∧ (WP d mX12_counts 59 [some (.ref v0), some (.int v1), some (.int (((4 : Int32) * v1) + (hAI h (hR h 1249 v0) ((6 : Int32)).toNatClampNeg)))] [.int (hAI (sAI h (hR h 1236 v0) ((((4 : Int32) * v1) + (hAI h (hR h 1249 v0) ((6 : Int32)).toNatClampNeg))).toNatClampNeg ((hAI h (hR h 1236 v0) ((((4 : Int32) * v1) + (hAI h (hR h 1249 v0) ((6 : Int32)).toNatClampNeg))).toNatClampNeg) ||| ((1 : Int32) <<< ((hAI h (hR h 1249 v0) ((1 : Int32)).toNatClampNeg) &&& 31)))) (hR h 1236 v0) ((((4 : Int32) * v1) + (hAI h (hR h 1249 v0) ((6 : Int32)).toNatClampNeg))).toNatClampNeg)] (sAI h (hR h 1236 v0) ((((4 : Int32) * v1) + (hAI h (hR h 1249 v0) ((6 : Int32)).toNatClampNeg))).toNatClampNeg ((hAI h (hR h 1236 v0) ((((4 : Int32) * v1) + (hAI h (hR h 1249 v0) ((6 : Int32)).toNatClampNeg))).toNatClampNeg) ||| ((1 : Int32) <<< ((hAI h (hR h 1249 v0) ((1 : Int32)).toNatClampNeg) &&& 31)))) Q)))))))))))))) : WP d mX12_counts 0 [some (.ref v0), some (.int v1), u2] [] h Q := by
  refine w_iconst dX12_counts_0 i1_4 ?_
  refine w_iload_n dX12_counts_1 rfl ?_
  refine w_imul dX12_counts_2 ?_
  refine w_aload_n dX12_counts_3 rfl ?_
  obtain ⟨g1, k⟩ := k
  refine w_getR dX12_counts_4 f_12_144 t_12_49 g1 ?_
  refine w_bipush dX12_counts_7 i2_6 ?_
  obtain ⟨g2, k⟩ := k
  obtain ⟨g3, k⟩ := k
  refine w_iaload dX12_counts_9 g2 g3 ?_
  refine w_iadd dX12_counts_10 ?_
  refine w_istore_n (lo' := [some (.ref v0), some (.int v1), some (.int (((4 : Int32) * v1) + (hAI h (hR h 1249 v0) ((6 : Int32)).toNatClampNeg)))]) dX12_counts_11 (ltQ rfl) rfl ?_
  refine w_aload_n dX12_counts_12 rfl ?_
  refine w_getR dX12_counts_13 f_12_99 t_12_31 g1 ?_
  refine w_iload_n dX12_counts_16 rfl ?_
  obtain ⟨g4, k⟩ := k
  obtain ⟨g5, k⟩ := k
  refine w_iaload dX12_counts_17 g4 g5 ?_
  refine w_aload_n dX12_counts_18 rfl ?_
  refine w_getR dX12_counts_19 f_12_144 t_12_49 g1 ?_
  refine w_iconst dX12_counts_22 i1_3 ?_
  obtain ⟨g6, k⟩ := k
  refine w_iaload dX12_counts_23 g2 g6 ?_
  refine w_ic_ne (pc' := 91) dX12_counts_24 rfl rfl ⟨fun c => ?_, fun c => ?_⟩
  · replace k := k.1 c
    exact w_return dX12_counts_91 rfl k
  · replace k := k.2 c
    refine w_aload_n dX12_counts_27 rfl ?_
    refine w_getR dX12_counts_28 f_12_111 t_12_35 g1 ?_
    refine w_iload_n dX12_counts_31 rfl ?_
    obtain ⟨g7, k⟩ := k
    obtain ⟨g8, k⟩ := k
    refine w_baload dX12_counts_32 g7 g8 ?_
    refine w_if_eq (pc' := 91) dX12_counts_33 rfl rfl ⟨fun c => ?_, fun c => ?_⟩
    · replace k := k.1 c
      exact w_return dX12_counts_91 rfl k
    · replace k := k.2 c
      refine w_aload_n dX12_counts_36 rfl ?_
      refine w_getR dX12_counts_37 f_12_114 t_12_36 g1 ?_
      refine w_iload_n dX12_counts_40 rfl ?_
      refine w_dup2 dX12_counts_41 rfl rfl ?_
      obtain ⟨g9, k⟩ := k
      obtain ⟨g10, k⟩ := k
      refine w_iaload dX12_counts_42 g9 g10 ?_
      refine w_iconst dX12_counts_43 i1_1 ?_
      refine w_aload_n dX12_counts_44 rfl ?_
      refine w_getR dX12_counts_45 f_12_144 t_12_49 g1 ?_
      refine w_iconst dX12_counts_48 i1_1 ?_
      obtain ⟨g11, k⟩ := k
      refine w_iaload dX12_counts_49 g2 g11 ?_
      refine w_ishl dX12_counts_50 ?_
      refine w_ior dX12_counts_51 ?_
      refine w_iastore dX12_counts_52 g9 g10 ?_
      refine w_aload_n dX12_counts_53 rfl ?_
      refine w_getR dX12_counts_54 f_12_114 t_12_36 g1 ?_
      refine w_iload_n dX12_counts_57 rfl ?_
      refine w_iaload dX12_counts_58 g9 g10 ?_
      exact k
theorem bX12_counts_59 {d : Nat} {h : HP} {Q : Out → HP → Prop} {v0 : Nat} {v1 : Int32} {v2 : Int32} {s0 : Int32} (k : WP d mX12_bits 0 [some (.int s0), none, none] [] h (KK d mX12_counts mX12_bits 59 [some (.ref v0), some (.int v1), some (.int v2)] [] Q)) : WP (d + 1) mX12_counts 59 [some (.ref v0), some (.int v1), some (.int v2)] [.int s0] h Q := by
  exact w_stat (as1 := [.int s0]) (as2 := [.int s0]) (rest := []) (lo2 := [some (.int s0), none, none]) dX12_counts_59 c_12_237 rfl rfl rfl (Nat.le_of_ble_eq_true rfl) (Nat.le_of_ble_eq_true rfl) rfl (Nat.le_of_ble_eq_true rfl) rfl k
theorem bX12_counts_62 {d : Nat} {h : HP} {Q : Out → HP → Prop} {v0 : Nat} {v1 : Int32} {v2 : Int32} {s0 : Int32} (k : (1 < v0) ∧ ((hK h v0 = 12) ∧ (WP d mX12_most 0 [some (.ref v0)] [] h (KK d mX12_counts mX12_most 63 [some (.ref v0), some (.int v1), some (.int v2)] [.int s0] Q)))) : WP (d + 1) mX12_counts 62 [some (.ref v0), some (.int v1), some (.int v2)] [.int s0] h Q := by
  refine w_aload_n dX12_counts_62 rfl ?_
  obtain ⟨g1, k⟩ := k
  obtain ⟨g2, k⟩ := k
  exact w_virt (as1 := [.ref v0]) (as2 := [.ref v0]) (rest := [.int s0]) (lo2 := [some (.ref v0)]) dX12_counts_63 c_12_241 rfl rfl rfl (Nat.le_of_ble_eq_true rfl) (Nat.le_of_ble_eq_true rfl) rfl (Nat.le_of_ble_eq_true rfl) rfl rfl g1 g2 k
theorem bX12_counts_66 {d : Nat} {h : HP} {Q : Out → HP → Prop} {v0 : Nat} {v1 : Int32} {v2 : Int32} {s0 : Int32} {s1 : Int32} (k : ((s1 < s0) → Q (.inl none) h) ∧ ((¬ (s1 < s0)) → (hK h v0 = 12) ∧ ((hK h (hR h 1230 v0) = 20) ∧ ((inA h (hR h 1230 v0) v2 = true) ∧ (((¬ (hAI h (hR h 1230 v0) (v2).toNatClampNeg) = (-1 : Int32)) → Q (.inl none) h) ∧ ((¬ (¬ (hAI h (hR h 1230 v0) (v2).toNatClampNeg) = (-1 : Int32))) → (hK h (hR h 1232 v0) = 20) ∧ ((inA h (hR h 1232 v0) v2 = true) ∧ (Q (.inl none) (sAI h (hR h 1230 v0) (v2).toNatClampNeg (hAI h (hR h 1232 v0) (v2).toNatClampNeg)))))))))) : WP d mX12_counts 66 [some (.ref v0), some (.int v1), some (.int v2)] [.int s0, .int s1] h Q := by
  refine w_ic_lt (pc' := 91) dX12_counts_66 rfl rfl ⟨fun c => ?_, fun c => ?_⟩
  · replace k := k.1 c
    exact w_return dX12_counts_91 rfl k
  · replace k := k.2 c
    refine w_aload_n dX12_counts_69 rfl ?_
    obtain ⟨g1, k⟩ := k
    refine w_getR dX12_counts_70 f_12_96 t_12_30 g1 ?_
    refine w_iload_n dX12_counts_73 rfl ?_
    obtain ⟨g2, k⟩ := k
    obtain ⟨g3, k⟩ := k
    refine w_iaload dX12_counts_74 g2 g3 ?_
    refine w_iconst dX12_counts_75 i1_m1 ?_
    refine w_ic_ne (pc' := 91) dX12_counts_76 rfl rfl ⟨fun c => ?_, fun c => ?_⟩
    · replace k := k.1 c
      exact w_return dX12_counts_91 rfl k
    · replace k := k.2 c
      refine w_aload_n dX12_counts_79 rfl ?_
      refine w_getR dX12_counts_80 f_12_96 t_12_30 g1 ?_
      refine w_iload_n dX12_counts_83 rfl ?_
      refine w_aload_n dX12_counts_84 rfl ?_
      refine w_getR dX12_counts_85 f_12_102 t_12_32 g1 ?_
      refine w_iload_n dX12_counts_88 rfl ?_
      obtain ⟨g4, k⟩ := k
      obtain ⟨g5, k⟩ := k
      refine w_iaload dX12_counts_89 g4 g5 ?_
      refine w_iastore dX12_counts_90 g2 g3 ?_
      exact w_return dX12_counts_91 rfl k
theorem bX12_steps_0 {d : Nat} {h : HP} {Q : Out → HP → Prop} {v0 : Nat} (k : (hK h v0 = 12) ∧ (Q (.inl (some (.int (hI (sI h 1250 v0 (0 : Int32)) 1204 v0)))) (sI h 1250 v0 (0 : Int32)))) : WP d mX12_steps 0 [some (.ref v0)] [] h Q := by
  refine w_aload_n dX12_steps_0 rfl ?_
  refine w_iconst dX12_steps_1 i1_0 ?_
  obtain ⟨g1, k⟩ := k
  refine w_putI dX12_steps_2 f_12_151 t_12_50 (pf_nf n_12_50) g1 ?_
  refine w_aload_n dX12_steps_5 rfl ?_
  refine w_getI dX12_steps_6 f_12_164 t_12_4 g1 ?_
  exact w_ireturn dX12_steps_9 rfl k
theorem bX12_messages_0 {d : Nat} {h : HP} {Q : Out → HP → Prop} {v0 : Nat} (k : (hK h v0 = 12) ∧ (Q (.inl (some (.int (hI (sI h 1250 v0 (0 : Int32)) 1239 v0)))) (sI h 1250 v0 (0 : Int32)))) : WP d mX12_messages 0 [some (.ref v0)] [] h Q := by
  refine w_aload_n dX12_messages_0 rfl ?_
  refine w_iconst dX12_messages_1 i1_0 ?_
  obtain ⟨g1, k⟩ := k
  refine w_putI dX12_messages_2 f_12_151 t_12_50 (pf_nf n_12_50) g1 ?_
  refine w_aload_n dX12_messages_5 rfl ?_
  refine w_getI dX12_messages_6 f_12_167 t_12_39 g1 ?_
  exact w_ireturn dX12_messages_9 rfl k
theorem bX12_message_0 {d : Nat} {h : HP} {Q : Out → HP → Prop} {v0 : Nat} {v1 : Int32} {v2 : Int32} {u3 : Option Value} (k : (1 < v0) ∧ ((hK h v0 = 12) ∧ (WP d mX12_isMessage 0 [some (.ref v0), some (.int v1)] [] h (KK d mX12_message mX12_isMessage 2 [some (.ref v0), some (.int v1), some (.int v2), u3] [] Q)))) : WP (d + 1) mX12_message 0 [some (.ref v0), some (.int v1), some (.int v2), u3] [] h Q := by
  refine w_aload_n dX12_message_0 rfl ?_
  refine w_iload_n dX12_message_1 rfl ?_
  obtain ⟨g1, k⟩ := k
  obtain ⟨g2, k⟩ := k
  exact w_virt (as1 := [.int v1, .ref v0]) (as2 := [.ref v0, .int v1]) (rest := []) (lo2 := [some (.ref v0), some (.int v1)]) dX12_message_2 c_12_195 rfl rfl rfl (Nat.le_of_ble_eq_true rfl) (Nat.le_of_ble_eq_true rfl) rfl (Nat.le_of_ble_eq_true rfl) rfl rfl g1 g2 k
theorem bX12_message_5 {d : Nat} {h : HP} {Q : Out → HP → Prop} {v0 : Nat} {v1 : Int32} {v2 : Int32} {u3 : Option Value} {s0 : Int32} (k : WP d mX12_in 0 [some (.int v2), some (.int (0 : Int32)), some (.int (4 : Int32))] [] h (KK d mX12_message mX12_in 11 [some (.ref v0), some (.int v1), some (.int v2), some (.int s0)] [.int s0, .ref v0] Q)) : WP (d + 1) mX12_message 5 [some (.ref v0), some (.int v1), some (.int v2), u3] [.int s0] h Q := by
  refine w_istore_n (lo' := [some (.ref v0), some (.int v1), some (.int v2), some (.int s0)]) dX12_message_5 (ltQ rfl) rfl ?_
  refine w_aload_n dX12_message_6 rfl ?_
  refine w_iload_n dX12_message_7 rfl ?_
  refine w_iload_n dX12_message_8 rfl ?_
  refine w_iconst dX12_message_9 i1_0 ?_
  refine w_iconst dX12_message_10 i1_4 ?_
  exact w_stat (as1 := [.int (4 : Int32), .int (0 : Int32), .int v2]) (as2 := [.int v2, .int (0 : Int32), .int (4 : Int32)]) (rest := [.int s0, .ref v0]) (lo2 := [some (.int v2), some (.int (0 : Int32)), some (.int (4 : Int32))]) dX12_message_11 c_12_154 rfl rfl rfl (Nat.le_of_ble_eq_true rfl) (Nat.le_of_ble_eq_true rfl) rfl (Nat.le_of_ble_eq_true rfl) rfl k
theorem bX12_message_14 {d : Nat} {h : HP} {Q : Out → HP → Prop} {v0 : Nat} {v1 : Int32} {v2 : Int32} {v3 : Int32} {s0 : Int32} {s1 : Int32} {s2 : Nat} (k : (1 < s2) ∧ ((hK h s2 = 12) ∧ (WP d mX12_goes 0 [some (.ref s2), some (.int s1), some (.int s0), some (.int (1 : Int32))] [] h (KK d mX12_message mX12_goes 15 [some (.ref v0), some (.int v1), some (.int v2), some (.int v3)] [] Q)))) : WP (d + 1) mX12_message 14 [some (.ref v0), some (.int v1), some (.int v2), some (.int v3)] [.int s0, .int s1, .ref s2] h Q := by
  refine w_iconst dX12_message_14 i1_1 ?_
  obtain ⟨g1, k⟩ := k
  obtain ⟨g2, k⟩ := k
  exact w_virt (as1 := [.int (1 : Int32), .int s0, .int s1, .ref s2]) (as2 := [.ref s2, .int s1, .int s0, .int (1 : Int32)]) (rest := []) (lo2 := [some (.ref s2), some (.int s1), some (.int s0), some (.int (1 : Int32))]) dX12_message_15 c_12_173 rfl rfl rfl (Nat.le_of_ble_eq_true rfl) (Nat.le_of_ble_eq_true rfl) rfl (Nat.le_of_ble_eq_true rfl) rfl rfl g1 g2 k
theorem bX12_message_18 {d : Nat} {h : HP} {Q : Out → HP → Prop} {v0 : Nat} {v1 : Int32} {v2 : Int32} {v3 : Int32} {s0 : Int32} (k : ((¬ s0 = 0) → (hK h v0 = 12) ∧ (((¬ v2 = (4 : Int32)) → (hK h (hR h 1237 v0) = 20) ∧ ((inA h (hR h 1237 v0) (((24 : Int32) * v1) + v2) = true) ∧ (Q (.inl (some (.int (hAI h (hR h 1237 v0) ((((24 : Int32) * v1) + v2)).toNatClampNeg)))) h))) ∧ ((¬ (¬ v2 = (4 : Int32))) → (hK h (hR h 1237 v0) = 20) ∧ ((inA h (hR h 1237 v0) (((24 : Int32) * v1) + (8 : Int32)) = true) ∧ (Q (.inl (some (.int (hAI h (hR h 1237 v0) ((((24 : Int32) * v1) + (8 : Int32))).toNatClampNeg)))) h))))) ∧ ((¬ (¬ s0 = 0)) → Q (.inl (some (.int (0 : Int32)))) h)) : WP d mX12_message 18 [some (.ref v0), some (.int v1), some (.int v2), some (.int v3)] [.int s0] h Q := by
  refine w_if_ne (pc' := 23) dX12_message_18 rfl rfl ⟨fun c => ?_, fun c => ?_⟩
  · replace k := k.1 c
    refine w_aload_n dX12_message_23 rfl ?_
    obtain ⟨g1, k⟩ := k
    refine w_getR dX12_message_24 f_12_117 t_12_37 g1 ?_
    refine w_bipush dX12_message_27 i2_24 ?_
    refine w_iload_n dX12_message_29 rfl ?_
    refine w_imul dX12_message_30 ?_
    refine w_iload_n dX12_message_31 rfl ?_
    refine w_iconst dX12_message_32 i1_4 ?_
    refine w_ic_ne (pc' := 41) dX12_message_33 rfl rfl ⟨fun c => ?_, fun c => ?_⟩
    · replace k := k.1 c
      refine w_iload_n dX12_message_41 rfl ?_
      refine w_iadd dX12_message_42 ?_
      obtain ⟨g2, k⟩ := k
      obtain ⟨g3, k⟩ := k
      refine w_iaload dX12_message_43 g2 g3 ?_
      exact w_ireturn dX12_message_44 rfl k
    · replace k := k.2 c
      refine w_bipush dX12_message_36 i2_8 ?_
      refine w_goto (pc' := 42) dX12_message_38 rfl rfl ?_
      refine w_iadd dX12_message_42 ?_
      obtain ⟨g4, k⟩ := k
      obtain ⟨g5, k⟩ := k
      refine w_iaload dX12_message_43 g4 g5 ?_
      exact w_ireturn dX12_message_44 rfl k
  · replace k := k.2 c
    refine w_iconst dX12_message_21 i1_0 ?_
    exact w_ireturn dX12_message_22 rfl k
theorem bX12_of_0 {d : Nat} {h : HP} {Q : Out → HP → Prop} {v0 : Nat} {v1 : Int32} {v2 : Int32} {u3 : Option Value} (k : (1 < v0) ∧ ((hK h v0 = 12) ∧ (WP d mX12_isMachine 0 [some (.ref v0), some (.int v1)] [] h (KK d mX12_of mX12_isMachine 3 [some (.ref v0), some (.int v1), some (.int v2), u3] [.ref v0] Q)))) : WP (d + 1) mX12_of 0 [some (.ref v0), some (.int v1), some (.int v2), u3] [] h Q := by
  refine w_aload_n dX12_of_0 rfl ?_
  refine w_aload_n dX12_of_1 rfl ?_
  refine w_iload_n dX12_of_2 rfl ?_
  obtain ⟨g1, k⟩ := k
  obtain ⟨g2, k⟩ := k
  exact w_virt (as1 := [.int v1, .ref v0]) (as2 := [.ref v0, .int v1]) (rest := [.ref v0]) (lo2 := [some (.ref v0), some (.int v1)]) dX12_of_3 c_12_181 rfl rfl rfl (Nat.le_of_ble_eq_true rfl) (Nat.le_of_ble_eq_true rfl) rfl (Nat.le_of_ble_eq_true rfl) rfl rfl g1 g2 k
theorem bX12_of_6 {d : Nat} {h : HP} {Q : Out → HP → Prop} {v0 : Nat} {v1 : Int32} {v2 : Int32} {u3 : Option Value} {s0 : Int32} {s1 : Nat} (k : WP d mX12_in 0 [some (.int v2), some (.int (0 : Int32)), some (.int (7 : Int32))] [] h (KK d mX12_of mX12_in 10 [some (.ref v0), some (.int v1), some (.int v2), u3] [.int s0, .ref s1] Q)) : WP (d + 1) mX12_of 6 [some (.ref v0), some (.int v1), some (.int v2), u3] [.int s0, .ref s1] h Q := by
  refine w_iload_n dX12_of_6 rfl ?_
  refine w_iconst dX12_of_7 i1_0 ?_
  refine w_bipush dX12_of_8 i2_7 ?_
  exact w_stat (as1 := [.int (7 : Int32), .int (0 : Int32), .int v2]) (as2 := [.int v2, .int (0 : Int32), .int (7 : Int32)]) (rest := [.int s0, .ref s1]) (lo2 := [some (.int v2), some (.int (0 : Int32)), some (.int (7 : Int32))]) dX12_of_10 c_12_154 rfl rfl rfl (Nat.le_of_ble_eq_true rfl) (Nat.le_of_ble_eq_true rfl) rfl (Nat.le_of_ble_eq_true rfl) rfl k
theorem bX12_of_13 {d : Nat} {h : HP} {Q : Out → HP → Prop} {v0 : Nat} {v1 : Int32} {v2 : Int32} {u3 : Option Value} {s0 : Int32} {s1 : Int32} {s2 : Nat} (k : (1 < s2) ∧ ((hK h s2 = 12) ∧ (WP d mX12_goes 0 [some (.ref s2), some (.int s1), some (.int s0), some (.int (1 : Int32))] [] h (KK d mX12_of mX12_goes 14 [some (.ref v0), some (.int v1), some (.int v2), u3] [] Q)))) : WP (d + 1) mX12_of 13 [some (.ref v0), some (.int v1), some (.int v2), u3] [.int s0, .int s1, .ref s2] h Q := by
  refine w_iconst dX12_of_13 i1_1 ?_
  obtain ⟨g1, k⟩ := k
  obtain ⟨g2, k⟩ := k
  exact w_virt (as1 := [.int (1 : Int32), .int s0, .int s1, .ref s2]) (as2 := [.ref s2, .int s1, .int s0, .int (1 : Int32)]) (rest := []) (lo2 := [some (.ref s2), some (.int s1), some (.int s0), some (.int (1 : Int32))]) dX12_of_14 c_12_173 rfl rfl rfl (Nat.le_of_ble_eq_true rfl) (Nat.le_of_ble_eq_true rfl) rfl (Nat.le_of_ble_eq_true rfl) rfl rfl g1 g2 k
theorem bX12_of_17 {d : Nat} {h : HP} {Q : Out → HP → Prop} {v0 : Nat} {v1 : Int32} {v2 : Int32} {u3 : Option Value} {s0 : Int32} (k : ((¬ s0 = 0) → ((v2 = (0 : Int32)) → (hK h v0 = 12) ∧ ((hK h (hR h 1211 v0) = 20) ∧ ((inA h (hR h 1211 v0) v1 = true) ∧ (Q (.inl (some (.int (hAI h (hR h 1211 v0) (v1).toNatClampNeg)))) h)))) ∧ ((v2 = (1 : Int32)) → (hK h v0 = 12) ∧ ((hK h (hR h 1209 v0) = 20) ∧ ((inA h (hR h 1209 v0) v1 = true) ∧ (Q (.inl (some (.int (hAI h (hR h 1209 v0) (v1).toNatClampNeg)))) h)))) ∧ ((v2 = (2 : Int32)) → (hK h v0 = 12) ∧ ((hK h (hR h 1210 v0) = 20) ∧ ((inA h (hR h 1210 v0) v1 = true) ∧ (Q (.inl (some (.int (hAI h (hR h 1210 v0) (v1).toNatClampNeg)))) h)))) ∧ ((v2 = (3 : Int32)) → (hK h v0 = 12) ∧ ((hK h (hR h 1212 v0) = 20) ∧ ((inA h (hR h 1212 v0) v1 = true) ∧ (Q (.inl (some (.int (hAI h (hR h 1212 v0) (v1).toNatClampNeg)))) h)))) ∧ ((v2 = (4 : Int32)) → (hK h v0 = 12) ∧ ((hK h (hR h 1213 v0) = 20) ∧ ((inA h (hR h 1213 v0) v1 = true) ∧ (Q (.inl (some (.int (hAI h (hR h 1213 v0) (v1).toNatClampNeg)))) h)))) ∧ ((v2 = (5 : Int32)) → (1 < v0) ∧ ((hK h v0 = 12) ∧ (WP d mX12_valueOf 0 [some (.ref v0), some (.int v1), none, none, none, none, none] [] h (KK d mX12_of mX12_valueOf 105 [some (.ref v0), some (.int v1), some (.int v2), some (.int v1)] [] Q)))) ∧ ((v2 = (6 : Int32)) → (1 < v0) ∧ ((hK h v0 = 12) ∧ (WP d mX12_promises 0 [some (.ref v0), some (.int v1)] [] h (KK d mX12_of mX12_promises 111 [some (.ref v0), some (.int v1), some (.int v2), some (.int v1)] [] Q)))) ∧ ((¬ v2 = (0 : Int32) ∧ ¬ v2 = (1 : Int32) ∧ ¬ v2 = (2 : Int32) ∧ ¬ v2 = (3 : Int32) ∧ ¬ v2 = (4 : Int32) ∧ ¬ v2 = (5 : Int32) ∧ ¬ v2 = (6 : Int32)) → (hK h v0 = 12) ∧ ((hK h (hR h 1205 v0) = 21) ∧ ((inA h (hR h 1205 v0) v1 = true) ∧ ((((hAI h (hR h 1205 v0) (v1).toNatClampNeg) = 0) → WP (d + 1) mX12_of 142 [some (.ref v0), some (.int v1), some (.int v2), some (.int v1)] [.int (0 : Int32)] h Q) ∧ ((¬ ((hAI h (hR h 1205 v0) (v1).toNatClampNeg) = 0)) → WP (d + 1) mX12_of 142 [some (.ref v0), some (.int v1), some (.int v2), some (.int v1)] [.int (1 : Int32)] h Q)))))) ∧ ((¬ (¬ s0 = 0)) → Q (.inl (some (.int (0 : Int32)))) h)) : WP (d + 1) mX12_of 17 [some (.ref v0), some (.int v1), some (.int v2), u3] [.int s0] h Q := by
  refine w_if_ne (pc' := 22) dX12_of_17 rfl rfl ⟨fun c => ?_, fun c => ?_⟩
  · replace k := k.1 c
    refine w_iload_n dX12_of_22 rfl ?_
    refine w_istore_n (lo' := [some (.ref v0), some (.int v1), some (.int v2), some (.int v1)]) dX12_of_23 (ltQ rfl) rfl ?_
    refine w_iload_n dX12_of_24 rfl ?_
    by_cases c0 : v2 = (0 : Int32)
    · replace k := k.1 c0
      refine w_tsw (pc' := 68) dX12_of_25 (by rw [c0]; rfl) ?_
      refine w_aload_n dX12_of_68 rfl ?_
      obtain ⟨g1, k⟩ := k
      refine w_getR dX12_of_69 f_12_39 t_12_11 g1 ?_
      refine w_iload_n dX12_of_72 rfl ?_
      obtain ⟨g2, k⟩ := k
      obtain ⟨g3, k⟩ := k
      refine w_iaload dX12_of_73 g2 g3 ?_
      exact w_ireturn dX12_of_74 rfl k
    replace k := k.2
    by_cases c1 : v2 = (1 : Int32)
    · replace k := k.1 c1
      refine w_tsw (pc' := 75) dX12_of_25 (by rw [c1]; rfl) ?_
      refine w_aload_n dX12_of_75 rfl ?_
      obtain ⟨g4, k⟩ := k
      refine w_getR dX12_of_76 f_12_32 t_12_9 g4 ?_
      refine w_iload_n dX12_of_79 rfl ?_
      obtain ⟨g5, k⟩ := k
      obtain ⟨g6, k⟩ := k
      refine w_iaload dX12_of_80 g5 g6 ?_
      exact w_ireturn dX12_of_81 rfl k
    replace k := k.2
    by_cases c2 : v2 = (2 : Int32)
    · replace k := k.1 c2
      refine w_tsw (pc' := 82) dX12_of_25 (by rw [c2]; rfl) ?_
      refine w_aload_n dX12_of_82 rfl ?_
      obtain ⟨g7, k⟩ := k
      refine w_getR dX12_of_83 f_12_36 t_12_10 g7 ?_
      refine w_iload_n dX12_of_86 rfl ?_
      obtain ⟨g8, k⟩ := k
      obtain ⟨g9, k⟩ := k
      refine w_iaload dX12_of_87 g8 g9 ?_
      exact w_ireturn dX12_of_88 rfl k
    replace k := k.2
    by_cases c3 : v2 = (3 : Int32)
    · replace k := k.1 c3
      refine w_tsw (pc' := 89) dX12_of_25 (by rw [c3]; rfl) ?_
      refine w_aload_n dX12_of_89 rfl ?_
      obtain ⟨g10, k⟩ := k
      refine w_getR dX12_of_90 f_12_42 t_12_12 g10 ?_
      refine w_iload_n dX12_of_93 rfl ?_
      obtain ⟨g11, k⟩ := k
      obtain ⟨g12, k⟩ := k
      refine w_iaload dX12_of_94 g11 g12 ?_
      exact w_ireturn dX12_of_95 rfl k
    replace k := k.2
    by_cases c4 : v2 = (4 : Int32)
    · replace k := k.1 c4
      refine w_tsw (pc' := 96) dX12_of_25 (by rw [c4]; rfl) ?_
      refine w_aload_n dX12_of_96 rfl ?_
      obtain ⟨g13, k⟩ := k
      refine w_getR dX12_of_97 f_12_45 t_12_13 g13 ?_
      refine w_iload_n dX12_of_100 rfl ?_
      obtain ⟨g14, k⟩ := k
      obtain ⟨g15, k⟩ := k
      refine w_iaload dX12_of_101 g14 g15 ?_
      exact w_ireturn dX12_of_102 rfl k
    replace k := k.2
    by_cases c5 : v2 = (5 : Int32)
    · replace k := k.1 c5
      refine w_tsw (pc' := 103) dX12_of_25 (by rw [c5]; rfl) ?_
      refine w_aload_n dX12_of_103 rfl ?_
      refine w_iload_n dX12_of_104 rfl ?_
      obtain ⟨g16, k⟩ := k
      obtain ⟨g17, k⟩ := k
      exact w_virt (as1 := [.int v1, .ref v0]) (as2 := [.ref v0, .int v1]) (rest := []) (lo2 := [some (.ref v0), some (.int v1), none, none, none, none, none]) dX12_of_105 c_12_267 rfl rfl rfl (Nat.le_of_ble_eq_true rfl) (Nat.le_of_ble_eq_true rfl) rfl (Nat.le_of_ble_eq_true rfl) rfl rfl g16 g17 k
    replace k := k.2
    by_cases c6 : v2 = (6 : Int32)
    · replace k := k.1 c6
      refine w_tsw (pc' := 109) dX12_of_25 (by rw [c6]; rfl) ?_
      refine w_aload_n dX12_of_109 rfl ?_
      refine w_iload_n dX12_of_110 rfl ?_
      obtain ⟨g18, k⟩ := k
      obtain ⟨g19, k⟩ := k
      exact w_virt (as1 := [.int v1, .ref v0]) (as2 := [.ref v0, .int v1]) (rest := []) (lo2 := [some (.ref v0), some (.int v1)]) dX12_of_111 c_12_226 rfl rfl rfl (Nat.le_of_ble_eq_true rfl) (Nat.le_of_ble_eq_true rfl) rfl (Nat.le_of_ble_eq_true rfl) rfl rfl g18 g19 k
    replace k := k.2
    have e0 := ts_ne c0 (k := 0) rfl
    have e1 := ts_ne c1 (k := 1) rfl
    have e2 := ts_ne c2 (k := 2) rfl
    have e3 := ts_ne c3 (k := 3) rfl
    have e4 := ts_ne c4 (k := 4) rfl
    have e5 := ts_ne c5 (k := 5) rfl
    have e6 := ts_ne c6 (k := 6) rfl
    replace k := k ⟨c0, c1, c2, c3, c4, c5, c6⟩
    refine w_tsw (pc' := 128) dX12_of_25 (ts_def (x := v2) (by omega) rfl rfl) ?_
    refine w_aload_n dX12_of_128 rfl ?_
    obtain ⟨g20, k⟩ := k
    refine w_getR dX12_of_129 f_12_18 t_12_5 g20 ?_
    refine w_iload_n dX12_of_132 rfl ?_
    obtain ⟨g21, k⟩ := k
    obtain ⟨g22, k⟩ := k
    refine w_baload dX12_of_133 g21 g22 ?_
    refine w_if_eq (pc' := 141) dX12_of_134 rfl rfl ⟨fun c => ?_, fun c => ?_⟩
    · replace k := k.1 c
      refine w_iconst dX12_of_141 i1_0 ?_
      exact k
    · replace k := k.2 c
      refine w_iconst dX12_of_137 i1_1 ?_
      refine w_goto (pc' := 142) dX12_of_138 rfl rfl ?_
      exact k
  · replace k := k.2 c
    refine w_iconst dX12_of_20 i1_0 ?_
    exact w_ireturn dX12_of_21 rfl k
theorem bX12_of_108 {d : Nat} {h : HP} {Q : Out → HP → Prop} {v0 : Nat} {v1 : Int32} {v2 : Int32} {v3 : Int32} {s0 : Int32} (k : Q (.inl (some (.int s0))) h) : WP d mX12_of 108 [some (.ref v0), some (.int v1), some (.int v2), some (.int v3)] [.int s0] h Q := by
  exact w_ireturn dX12_of_108 rfl k
theorem bX12_of_114 {d : Nat} {h : HP} {Q : Out → HP → Prop} {v0 : Nat} {v1 : Int32} {v2 : Int32} {v3 : Int32} {s0 : Int32} (k : ((s0 = 0) → WP d mX12_of 127 [some (.ref v0), some (.int v1), some (.int v2), some (.int v3)] [.int (-1 : Int32)] h Q) ∧ ((¬ (s0 = 0)) → (hK h v0 = 12) ∧ ((hK h (hR h 1225 v0) = 20) ∧ ((inA h (hR h 1225 v0) v3 = true) ∧ (WP d mX12_of 127 [some (.ref v0), some (.int v1), some (.int v2), some (.int v3)] [.int (hAI h (hR h 1225 v0) (v3).toNatClampNeg)] h Q))))) : WP d mX12_of 114 [some (.ref v0), some (.int v1), some (.int v2), some (.int v3)] [.int s0] h Q := by
  refine w_if_eq (pc' := 126) dX12_of_114 rfl rfl ⟨fun c => ?_, fun c => ?_⟩
  · replace k := k.1 c
    refine w_iconst dX12_of_126 i1_m1 ?_
    exact k
  · replace k := k.2 c
    refine w_aload_n dX12_of_117 rfl ?_
    obtain ⟨g1, k⟩ := k
    refine w_getR dX12_of_118 f_12_81 t_12_25 g1 ?_
    refine w_iload_n dX12_of_121 rfl ?_
    obtain ⟨g2, k⟩ := k
    obtain ⟨g3, k⟩ := k
    refine w_iaload dX12_of_122 g2 g3 ?_
    refine w_goto (pc' := 127) dX12_of_123 rfl rfl ?_
    exact k
theorem bX12_of_127 {d : Nat} {h : HP} {Q : Out → HP → Prop} {v0 : Nat} {v1 : Int32} {v2 : Int32} {v3 : Int32} {s0 : Int32} (k : Q (.inl (some (.int s0))) h) : WP d mX12_of 127 [some (.ref v0), some (.int v1), some (.int v2), some (.int v3)] [.int s0] h Q := by
  exact w_ireturn dX12_of_127 rfl k
theorem bX12_of_142 {d : Nat} {h : HP} {Q : Out → HP → Prop} {v0 : Nat} {v1 : Int32} {v2 : Int32} {v3 : Int32} {s0 : Int32} (k : Q (.inl (some (.int s0))) h) : WP d mX12_of 142 [some (.ref v0), some (.int v1), some (.int v2), some (.int v3)] [.int s0] h Q := by
  exact w_ireturn dX12_of_142 rfl k
theorem bX12_entry_0 {d : Nat} {h : HP} {Q : Out → HP → Prop} {v0 : Nat} {v1 : Int32} {v2 : Int32} {v3 : Int32} {u4 : Option Value} {u5 : Option Value} (k : (1 < v0) ∧ ((hK h v0 = 12) ∧ (WP d mX12_isMachine 0 [some (.ref v0), some (.int v1)] [] h (KK d mX12_entry mX12_isMachine 2 [some (.ref v0), some (.int v1), some (.int v2), some (.int v3), u4, u5] [] Q)))) : WP (d + 1) mX12_entry 0 [some (.ref v0), some (.int v1), some (.int v2), some (.int v3), u4, u5] [] h Q := by
  refine w_aload_n dX12_entry_0 rfl ?_
  refine w_iload_n dX12_entry_1 rfl ?_
  obtain ⟨g1, k⟩ := k
  obtain ⟨g2, k⟩ := k
  exact w_virt (as1 := [.int v1, .ref v0]) (as2 := [.ref v0, .int v1]) (rest := []) (lo2 := [some (.ref v0), some (.int v1)]) dX12_entry_2 c_12_181 rfl rfl rfl (Nat.le_of_ble_eq_true rfl) (Nat.le_of_ble_eq_true rfl) rfl (Nat.le_of_ble_eq_true rfl) rfl rfl g1 g2 k
theorem bX12_entry_5 {d : Nat} {h : HP} {Q : Out → HP → Prop} {v0 : Nat} {v1 : Int32} {v2 : Int32} {v3 : Int32} {u4 : Option Value} {u5 : Option Value} {s0 : Int32} (k : ((s0 = 0) → WP d mX12_in 0 [some (.int v3), some (.int (0 : Int32)), some (.int (3 : Int32))] [] h (KK d mX12_entry mX12_in 47 [some (.ref v0), some (.int v1), some (.int v2), some (.int v3), some (.int (0 : Int32)), u5] [.int (0 : Int32), .ref v0] Q)) ∧ ((¬ (s0 = 0)) → (hK h v0 = 12) ∧ ((1 < v0) ∧ (WP d mX12_isMachine 0 [some (.ref v0), some (.int v1)] [] h (KK d mX12_entry mX12_isMachine 16 [some (.ref v0), some (.int v1), some (.int v2), some (.int v3), u4, u5] [.ref (hR h 1212 v0), .int (1 : Int32), .int v2] Q))))) : WP (d + 1) mX12_entry 5 [some (.ref v0), some (.int v1), some (.int v2), some (.int v3), u4, u5] [.int s0] h Q := by
  refine w_if_eq (pc' := 38) dX12_entry_5 rfl rfl ⟨fun c => ?_, fun c => ?_⟩
  · replace k := k.1 c
    refine w_iconst dX12_entry_38 i1_0 ?_
    refine w_istore (lo' := [some (.ref v0), some (.int v1), some (.int v2), some (.int v3), some (.int (0 : Int32)), u5]) dX12_entry_39 (ltQ rfl) rfl ?_
    refine w_aload_n dX12_entry_41 rfl ?_
    refine w_iload dX12_entry_42 rfl ?_
    refine w_iload_n dX12_entry_44 rfl ?_
    refine w_iconst dX12_entry_45 i1_0 ?_
    refine w_iconst dX12_entry_46 i1_3 ?_
    exact w_stat (as1 := [.int (3 : Int32), .int (0 : Int32), .int v3]) (as2 := [.int v3, .int (0 : Int32), .int (3 : Int32)]) (rest := [.int (0 : Int32), .ref v0]) (lo2 := [some (.int v3), some (.int (0 : Int32)), some (.int (3 : Int32))]) dX12_entry_47 c_12_154 rfl rfl rfl (Nat.le_of_ble_eq_true rfl) (Nat.le_of_ble_eq_true rfl) rfl (Nat.le_of_ble_eq_true rfl) rfl k
  · replace k := k.2 c
    refine w_iload_n dX12_entry_8 rfl ?_
    refine w_iconst dX12_entry_9 i1_1 ?_
    refine w_aload_n dX12_entry_10 rfl ?_
    obtain ⟨g1, k⟩ := k
    refine w_getR dX12_entry_11 f_12_42 t_12_12 g1 ?_
    refine w_aload_n dX12_entry_14 rfl ?_
    refine w_iload_n dX12_entry_15 rfl ?_
    obtain ⟨g2, k⟩ := k
    exact w_virt (as1 := [.int v1, .ref v0]) (as2 := [.ref v0, .int v1]) (rest := [.ref (hR h 1212 v0), .int (1 : Int32), .int v2]) (lo2 := [some (.ref v0), some (.int v1)]) dX12_entry_16 c_12_181 rfl rfl rfl (Nat.le_of_ble_eq_true rfl) (Nat.le_of_ble_eq_true rfl) rfl (Nat.le_of_ble_eq_true rfl) rfl rfl g2 g1 k
theorem bX12_entry_19 {d : Nat} {h : HP} {Q : Out → HP → Prop} {v0 : Nat} {v1 : Int32} {v2 : Int32} {v3 : Int32} {u4 : Option Value} {u5 : Option Value} {s0 : Int32} {s1 : Nat} {s2 : Int32} {s3 : Int32} (k : ((s0 = 0) → (hK h s1 = 20) ∧ ((inA h s1 (0 : Int32) = true) ∧ (WP d mX12_in 0 [some (.int s3), some (.int s2), some (.int (hAI h s1 ((0 : Int32)).toNatClampNeg))] [] h (KK d mX12_entry mX12_in 28 [some (.ref v0), some (.int v1), some (.int v2), some (.int v3), u4, u5] [] Q)))) ∧ ((¬ (s0 = 0)) → (hK h s1 = 20) ∧ ((inA h s1 v1 = true) ∧ (WP d mX12_in 0 [some (.int s3), some (.int s2), some (.int (hAI h s1 (v1).toNatClampNeg))] [] h (KK d mX12_entry mX12_in 28 [some (.ref v0), some (.int v1), some (.int v2), some (.int v3), u4, u5] [] Q))))) : WP (d + 1) mX12_entry 19 [some (.ref v0), some (.int v1), some (.int v2), some (.int v3), u4, u5] [.int s0, .ref s1, .int s2, .int s3] h Q := by
  refine w_if_eq (pc' := 26) dX12_entry_19 rfl rfl ⟨fun c => ?_, fun c => ?_⟩
  · replace k := k.1 c
    refine w_iconst dX12_entry_26 i1_0 ?_
    obtain ⟨g1, k⟩ := k
    obtain ⟨g2, k⟩ := k
    refine w_iaload dX12_entry_27 g1 g2 ?_
    exact w_stat (as1 := [.int (hAI h s1 ((0 : Int32)).toNatClampNeg), .int s2, .int s3]) (as2 := [.int s3, .int s2, .int (hAI h s1 ((0 : Int32)).toNatClampNeg)]) (rest := []) (lo2 := [some (.int s3), some (.int s2), some (.int (hAI h s1 ((0 : Int32)).toNatClampNeg))]) dX12_entry_28 c_12_154 rfl rfl rfl (Nat.le_of_ble_eq_true rfl) (Nat.le_of_ble_eq_true rfl) rfl (Nat.le_of_ble_eq_true rfl) rfl k
  · replace k := k.2 c
    refine w_iload_n dX12_entry_22 rfl ?_
    refine w_goto (pc' := 27) dX12_entry_23 rfl rfl ?_
    obtain ⟨g3, k⟩ := k
    obtain ⟨g4, k⟩ := k
    refine w_iaload dX12_entry_27 g3 g4 ?_
    exact w_stat (as1 := [.int (hAI h s1 (v1).toNatClampNeg), .int s2, .int s3]) (as2 := [.int s3, .int s2, .int (hAI h s1 (v1).toNatClampNeg)]) (rest := []) (lo2 := [some (.int s3), some (.int s2), some (.int (hAI h s1 (v1).toNatClampNeg))]) dX12_entry_28 c_12_154 rfl rfl rfl (Nat.le_of_ble_eq_true rfl) (Nat.le_of_ble_eq_true rfl) rfl (Nat.le_of_ble_eq_true rfl) rfl k
theorem bX12_entry_31 {d : Nat} {h : HP} {Q : Out → HP → Prop} {v0 : Nat} {v1 : Int32} {v2 : Int32} {v3 : Int32} {u4 : Option Value} {u5 : Option Value} {s0 : Int32} (k : ((s0 = 0) → WP d mX12_in 0 [some (.int v3), some (.int (0 : Int32)), some (.int (3 : Int32))] [] h (KK d mX12_entry mX12_in 47 [some (.ref v0), some (.int v1), some (.int v2), some (.int v3), some (.int (0 : Int32)), u5] [.int (0 : Int32), .ref v0] Q)) ∧ ((¬ (s0 = 0)) → WP d mX12_in 0 [some (.int v3), some (.int (0 : Int32)), some (.int (3 : Int32))] [] h (KK d mX12_entry mX12_in 47 [some (.ref v0), some (.int v1), some (.int v2), some (.int v3), some (.int (1 : Int32)), u5] [.int (1 : Int32), .ref v0] Q))) : WP (d + 1) mX12_entry 31 [some (.ref v0), some (.int v1), some (.int v2), some (.int v3), u4, u5] [.int s0] h Q := by
  refine w_if_eq (pc' := 38) dX12_entry_31 rfl rfl ⟨fun c => ?_, fun c => ?_⟩
  · replace k := k.1 c
    refine w_iconst dX12_entry_38 i1_0 ?_
    refine w_istore (lo' := [some (.ref v0), some (.int v1), some (.int v2), some (.int v3), some (.int (0 : Int32)), u5]) dX12_entry_39 (ltQ rfl) rfl ?_
    refine w_aload_n dX12_entry_41 rfl ?_
    refine w_iload dX12_entry_42 rfl ?_
    refine w_iload_n dX12_entry_44 rfl ?_
    refine w_iconst dX12_entry_45 i1_0 ?_
    refine w_iconst dX12_entry_46 i1_3 ?_
    exact w_stat (as1 := [.int (3 : Int32), .int (0 : Int32), .int v3]) (as2 := [.int v3, .int (0 : Int32), .int (3 : Int32)]) (rest := [.int (0 : Int32), .ref v0]) (lo2 := [some (.int v3), some (.int (0 : Int32)), some (.int (3 : Int32))]) dX12_entry_47 c_12_154 rfl rfl rfl (Nat.le_of_ble_eq_true rfl) (Nat.le_of_ble_eq_true rfl) rfl (Nat.le_of_ble_eq_true rfl) rfl k
  · replace k := k.2 c
    refine w_iconst dX12_entry_34 i1_1 ?_
    refine w_goto (pc' := 39) dX12_entry_35 rfl rfl ?_
    refine w_istore (lo' := [some (.ref v0), some (.int v1), some (.int v2), some (.int v3), some (.int (1 : Int32)), u5]) dX12_entry_39 (ltQ rfl) rfl ?_
    refine w_aload_n dX12_entry_41 rfl ?_
    refine w_iload dX12_entry_42 rfl ?_
    refine w_iload_n dX12_entry_44 rfl ?_
    refine w_iconst dX12_entry_45 i1_0 ?_
    refine w_iconst dX12_entry_46 i1_3 ?_
    exact w_stat (as1 := [.int (3 : Int32), .int (0 : Int32), .int v3]) (as2 := [.int v3, .int (0 : Int32), .int (3 : Int32)]) (rest := [.int (1 : Int32), .ref v0]) (lo2 := [some (.int v3), some (.int (0 : Int32)), some (.int (3 : Int32))]) dX12_entry_47 c_12_154 rfl rfl rfl (Nat.le_of_ble_eq_true rfl) (Nat.le_of_ble_eq_true rfl) rfl (Nat.le_of_ble_eq_true rfl) rfl k
theorem bX12_entry_50 {d : Nat} {h : HP} {Q : Out → HP → Prop} {v0 : Nat} {v1 : Int32} {v2 : Int32} {v3 : Int32} {v4 : Int32} {u5 : Option Value} {s0 : Int32} {s1 : Int32} {s2 : Nat} (k : (1 < s2) ∧ ((hK h s2 = 12) ∧ (WP d mX12_goes 0 [some (.ref s2), some (.int s1), some (.int s0), some (.int (1 : Int32))] [] h (KK d mX12_entry mX12_goes 51 [some (.ref v0), some (.int v1), some (.int v2), some (.int v3), some (.int v4), u5] [] Q)))) : WP (d + 1) mX12_entry 50 [some (.ref v0), some (.int v1), some (.int v2), some (.int v3), some (.int v4), u5] [.int s0, .int s1, .ref s2] h Q := by
  refine w_iconst dX12_entry_50 i1_1 ?_
  obtain ⟨g1, k⟩ := k
  obtain ⟨g2, k⟩ := k
  exact w_virt (as1 := [.int (1 : Int32), .int s0, .int s1, .ref s2]) (as2 := [.ref s2, .int s1, .int s0, .int (1 : Int32)]) (rest := []) (lo2 := [some (.ref s2), some (.int s1), some (.int s0), some (.int (1 : Int32))]) dX12_entry_51 c_12_173 rfl rfl rfl (Nat.le_of_ble_eq_true rfl) (Nat.le_of_ble_eq_true rfl) rfl (Nat.le_of_ble_eq_true rfl) rfl rfl g1 g2 k
theorem bX12_entry_54 {d : Nat} {h : HP} {Q : Out → HP → Prop} {v0 : Nat} {v1 : Int32} {v2 : Int32} {v3 : Int32} {v4 : Int32} {u5 : Option Value} {s0 : Int32} (k : ((¬ s0 = 0) → ((¬ v3 = 0) → ((¬ v3 = (1 : Int32)) → ((¬ v3 = (2 : Int32)) → (hK h v0 = 12) ∧ ((hK h (hR h 1217 v0) = 20) ∧ ((inA h (hR h 1217 v0) ((((30 : Int32) * v1) + v2) - (1 : Int32)) = true) ∧ (Q (.inl (some (.int (hAI h (hR h 1217 v0) (((((30 : Int32) * v1) + v2) - (1 : Int32))).toNatClampNeg)))) h)))) ∧ ((¬ (¬ v3 = (2 : Int32))) → (hK h v0 = 12) ∧ ((hK h (hR h 1216 v0) = 20) ∧ ((inA h (hR h 1216 v0) ((((30 : Int32) * v1) + v2) - (1 : Int32)) = true) ∧ (Q (.inl (some (.int (hAI h (hR h 1216 v0) (((((30 : Int32) * v1) + v2) - (1 : Int32))).toNatClampNeg)))) h))))) ∧ ((¬ (¬ v3 = (1 : Int32))) → (hK h v0 = 12) ∧ ((hK h (hR h 1215 v0) = 20) ∧ ((inA h (hR h 1215 v0) ((((30 : Int32) * v1) + v2) - (1 : Int32)) = true) ∧ (Q (.inl (some (.int (hAI h (hR h 1215 v0) (((((30 : Int32) * v1) + v2) - (1 : Int32))).toNatClampNeg)))) h))))) ∧ ((¬ (¬ v3 = 0)) → (hK h v0 = 12) ∧ ((hK h (hR h 1214 v0) = 20) ∧ ((inA h (hR h 1214 v0) ((((30 : Int32) * v1) + v2) - (1 : Int32)) = true) ∧ (Q (.inl (some (.int (hAI h (hR h 1214 v0) (((((30 : Int32) * v1) + v2) - (1 : Int32))).toNatClampNeg)))) h))))) ∧ ((¬ (¬ s0 = 0)) → Q (.inl (some (.int (0 : Int32)))) h)) : WP d mX12_entry 54 [some (.ref v0), some (.int v1), some (.int v2), some (.int v3), some (.int v4), u5] [.int s0] h Q := by
  refine w_if_ne (pc' := 59) dX12_entry_54 rfl rfl ⟨fun c => ?_, fun c => ?_⟩
  · replace k := k.1 c
    refine w_bipush dX12_entry_59 i2_30 ?_
    refine w_iload_n dX12_entry_61 rfl ?_
    refine w_imul dX12_entry_62 ?_
    refine w_iload_n dX12_entry_63 rfl ?_
    refine w_iadd dX12_entry_64 ?_
    refine w_iconst dX12_entry_65 i1_1 ?_
    refine w_isub dX12_entry_66 ?_
    refine w_istore (lo' := [some (.ref v0), some (.int v1), some (.int v2), some (.int v3), some (.int v4), some (.int ((((30 : Int32) * v1) + v2) - (1 : Int32)))]) dX12_entry_67 (ltQ rfl) rfl ?_
    refine w_iload_n dX12_entry_69 rfl ?_
    refine w_if_ne (pc' := 83) dX12_entry_70 rfl rfl ⟨fun c => ?_, fun c => ?_⟩
    · replace k := k.1 c
      refine w_iload_n dX12_entry_83 rfl ?_
      refine w_iconst dX12_entry_84 i1_1 ?_
      refine w_ic_ne (pc' := 98) dX12_entry_85 rfl rfl ⟨fun c => ?_, fun c => ?_⟩
      · replace k := k.1 c
        refine w_iload_n dX12_entry_98 rfl ?_
        refine w_iconst dX12_entry_99 i1_2 ?_
        refine w_ic_ne (pc' := 113) dX12_entry_100 rfl rfl ⟨fun c => ?_, fun c => ?_⟩
        · replace k := k.1 c
          refine w_aload_n dX12_entry_113 rfl ?_
          obtain ⟨g1, k⟩ := k
          refine w_getR dX12_entry_114 f_12_57 t_12_17 g1 ?_
          refine w_iload dX12_entry_117 rfl ?_
          obtain ⟨g2, k⟩ := k
          obtain ⟨g3, k⟩ := k
          refine w_iaload dX12_entry_119 g2 g3 ?_
          exact w_ireturn dX12_entry_120 rfl k
        · replace k := k.2 c
          refine w_aload_n dX12_entry_103 rfl ?_
          obtain ⟨g4, k⟩ := k
          refine w_getR dX12_entry_104 f_12_54 t_12_16 g4 ?_
          refine w_iload dX12_entry_107 rfl ?_
          obtain ⟨g5, k⟩ := k
          obtain ⟨g6, k⟩ := k
          refine w_iaload dX12_entry_109 g5 g6 ?_
          refine w_goto (pc' := 120) dX12_entry_110 rfl rfl ?_
          exact w_ireturn dX12_entry_120 rfl k
      · replace k := k.2 c
        refine w_aload_n dX12_entry_88 rfl ?_
        obtain ⟨g7, k⟩ := k
        refine w_getR dX12_entry_89 f_12_51 t_12_15 g7 ?_
        refine w_iload dX12_entry_92 rfl ?_
        obtain ⟨g8, k⟩ := k
        obtain ⟨g9, k⟩ := k
        refine w_iaload dX12_entry_94 g8 g9 ?_
        refine w_goto (pc' := 120) dX12_entry_95 rfl rfl ?_
        exact w_ireturn dX12_entry_120 rfl k
    · replace k := k.2 c
      refine w_aload_n dX12_entry_73 rfl ?_
      obtain ⟨g10, k⟩ := k
      refine w_getR dX12_entry_74 f_12_48 t_12_14 g10 ?_
      refine w_iload dX12_entry_77 rfl ?_
      obtain ⟨g11, k⟩ := k
      obtain ⟨g12, k⟩ := k
      refine w_iaload dX12_entry_79 g11 g12 ?_
      refine w_goto (pc' := 120) dX12_entry_80 rfl rfl ?_
      exact w_ireturn dX12_entry_120 rfl k
  · replace k := k.2 c
    refine w_iconst dX12_entry_57 i1_0 ?_
    exact w_ireturn dX12_entry_58 rfl k
theorem bX12_clock_0 {d : Nat} {h : HP} {Q : Out → HP → Prop} {v0 : Nat} {v1 : Int32} (k : (1 < v0) ∧ ((hK h v0 = 12) ∧ (WP d mX12_isMachine 0 [some (.ref v0), some (.int v1)] [] h (KK d mX12_clock mX12_isMachine 3 [some (.ref v0), some (.int v1)] [.ref v0] Q)))) : WP (d + 1) mX12_clock 0 [some (.ref v0), some (.int v1)] [] h Q := by
  refine w_aload_n dX12_clock_0 rfl ?_
  refine w_aload_n dX12_clock_1 rfl ?_
  refine w_iload_n dX12_clock_2 rfl ?_
  obtain ⟨g1, k⟩ := k
  obtain ⟨g2, k⟩ := k
  exact w_virt (as1 := [.int v1, .ref v0]) (as2 := [.ref v0, .int v1]) (rest := [.ref v0]) (lo2 := [some (.ref v0), some (.int v1)]) dX12_clock_3 c_12_181 rfl rfl rfl (Nat.le_of_ble_eq_true rfl) (Nat.le_of_ble_eq_true rfl) rfl (Nat.le_of_ble_eq_true rfl) rfl rfl g1 g2 k
theorem bX12_clock_6 {d : Nat} {h : HP} {Q : Out → HP → Prop} {v0 : Nat} {v1 : Int32} {s0 : Int32} {s1 : Nat} (k : (1 < s1) ∧ ((hK h s1 = 12) ∧ (WP d mX12_goes 0 [some (.ref s1), some (.int s0), some (.int (1 : Int32)), some (.int (1 : Int32))] [] h (KK d mX12_clock mX12_goes 8 [some (.ref v0), some (.int v1)] [] Q)))) : WP (d + 1) mX12_clock 6 [some (.ref v0), some (.int v1)] [.int s0, .ref s1] h Q := by
  refine w_iconst dX12_clock_6 i1_1 ?_
  refine w_iconst dX12_clock_7 i1_1 ?_
  obtain ⟨g1, k⟩ := k
  obtain ⟨g2, k⟩ := k
  exact w_virt (as1 := [.int (1 : Int32), .int (1 : Int32), .int s0, .ref s1]) (as2 := [.ref s1, .int s0, .int (1 : Int32), .int (1 : Int32)]) (rest := []) (lo2 := [some (.ref s1), some (.int s0), some (.int (1 : Int32)), some (.int (1 : Int32))]) dX12_clock_8 c_12_173 rfl rfl rfl (Nat.le_of_ble_eq_true rfl) (Nat.le_of_ble_eq_true rfl) rfl (Nat.le_of_ble_eq_true rfl) rfl rfl g1 g2 k
theorem bX12_clock_11 {d : Nat} {h : HP} {Q : Out → HP → Prop} {v0 : Nat} {v1 : Int32} {s0 : Int32} (k : ((s0 = 0) → Q (.inl (some (.float FP.fconst0))) h) ∧ ((¬ (s0 = 0)) → (hK h v0 = 12) ∧ ((hK h (hR h 1207 v0) = 22) ∧ ((inA h (hR h 1207 v0) v1 = true) ∧ (Q (.inl (some (.float (hAF h (hR h 1207 v0) (v1).toNatClampNeg)))) h))))) : WP d mX12_clock 11 [some (.ref v0), some (.int v1)] [.int s0] h Q := by
  refine w_if_eq (pc' := 23) dX12_clock_11 rfl rfl ⟨fun c => ?_, fun c => ?_⟩
  · replace k := k.1 c
    refine w_fconst0 dX12_clock_23 ?_
    exact w_freturn dX12_clock_24 rfl k
  · replace k := k.2 c
    refine w_aload_n dX12_clock_14 rfl ?_
    obtain ⟨g1, k⟩ := k
    refine w_getR dX12_clock_15 f_12_25 t_12_7 g1 ?_
    refine w_iload_n dX12_clock_18 rfl ?_
    obtain ⟨g2, k⟩ := k
    obtain ⟨g3, k⟩ := k
    refine w_faload dX12_clock_19 g2 g3 ?_
    refine w_goto (pc' := 24) dX12_clock_20 rfl rfl ?_
    exact w_freturn dX12_clock_24 rfl k
theorem bX12_lease_0 {d : Nat} {h : HP} {Q : Out → HP → Prop} {v0 : Nat} {v1 : Int32} (k : (1 < v0) ∧ ((hK h v0 = 12) ∧ (WP d mX12_isMachine 0 [some (.ref v0), some (.int v1)] [] h (KK d mX12_lease mX12_isMachine 3 [some (.ref v0), some (.int v1)] [.ref v0] Q)))) : WP (d + 1) mX12_lease 0 [some (.ref v0), some (.int v1)] [] h Q := by
  refine w_aload_n dX12_lease_0 rfl ?_
  refine w_aload_n dX12_lease_1 rfl ?_
  refine w_iload_n dX12_lease_2 rfl ?_
  obtain ⟨g1, k⟩ := k
  obtain ⟨g2, k⟩ := k
  exact w_virt (as1 := [.int v1, .ref v0]) (as2 := [.ref v0, .int v1]) (rest := [.ref v0]) (lo2 := [some (.ref v0), some (.int v1)]) dX12_lease_3 c_12_181 rfl rfl rfl (Nat.le_of_ble_eq_true rfl) (Nat.le_of_ble_eq_true rfl) rfl (Nat.le_of_ble_eq_true rfl) rfl rfl g1 g2 k
theorem bX12_lease_6 {d : Nat} {h : HP} {Q : Out → HP → Prop} {v0 : Nat} {v1 : Int32} {s0 : Int32} {s1 : Nat} (k : (1 < s1) ∧ ((hK h s1 = 12) ∧ (WP d mX12_goes 0 [some (.ref s1), some (.int s0), some (.int (1 : Int32)), some (.int (1 : Int32))] [] h (KK d mX12_lease mX12_goes 8 [some (.ref v0), some (.int v1)] [] Q)))) : WP (d + 1) mX12_lease 6 [some (.ref v0), some (.int v1)] [.int s0, .ref s1] h Q := by
  refine w_iconst dX12_lease_6 i1_1 ?_
  refine w_iconst dX12_lease_7 i1_1 ?_
  obtain ⟨g1, k⟩ := k
  obtain ⟨g2, k⟩ := k
  exact w_virt (as1 := [.int (1 : Int32), .int (1 : Int32), .int s0, .ref s1]) (as2 := [.ref s1, .int s0, .int (1 : Int32), .int (1 : Int32)]) (rest := []) (lo2 := [some (.ref s1), some (.int s0), some (.int (1 : Int32)), some (.int (1 : Int32))]) dX12_lease_8 c_12_173 rfl rfl rfl (Nat.le_of_ble_eq_true rfl) (Nat.le_of_ble_eq_true rfl) rfl (Nat.le_of_ble_eq_true rfl) rfl rfl g1 g2 k
theorem bX12_lease_11 {d : Nat} {h : HP} {Q : Out → HP → Prop} {v0 : Nat} {v1 : Int32} {s0 : Int32} (k : ((¬ s0 = 0) → (hK h v0 = 12) ∧ ((hK h (hR h 1211 v0) = 20) ∧ ((inA h (hR h 1211 v0) v1 = true) ∧ (((¬ (hAI h (hR h 1211 v0) (v1).toNatClampNeg) = (2 : Int32)) → Q (.inl (some (.float (3212836864 : UInt32)))) h) ∧ ((¬ (¬ (hAI h (hR h 1211 v0) (v1).toNatClampNeg) = (2 : Int32))) → (hK h (hR h 1223 v0) = 21) ∧ ((inA h (hR h 1223 v0) v1 = true) ∧ ((((hAI h (hR h 1223 v0) (v1).toNatClampNeg) = 0) → Q (.inl (some (.float (3212836864 : UInt32)))) h) ∧ ((¬ ((hAI h (hR h 1223 v0) (v1).toNatClampNeg) = 0)) → (hK h (hR h 1224 v0) = 22) ∧ ((inA h (hR h 1224 v0) v1 = true) ∧ (Q (.inl (some (.float (hAF h (hR h 1224 v0) (v1).toNatClampNeg)))) h)))))))))) ∧ ((¬ (¬ s0 = 0)) → Q (.inl (some (.float FP.fconst0))) h)) : WP d mX12_lease 11 [some (.ref v0), some (.int v1)] [.int s0] h Q := by
  refine w_if_ne (pc' := 16) dX12_lease_11 rfl rfl ⟨fun c => ?_, fun c => ?_⟩
  · replace k := k.1 c
    refine w_aload_n dX12_lease_16 rfl ?_
    obtain ⟨g1, k⟩ := k
    refine w_getR dX12_lease_17 f_12_39 t_12_11 g1 ?_
    refine w_iload_n dX12_lease_20 rfl ?_
    obtain ⟨g2, k⟩ := k
    obtain ⟨g3, k⟩ := k
    refine w_iaload dX12_lease_21 g2 g3 ?_
    refine w_iconst dX12_lease_22 i1_2 ?_
    refine w_ic_ne (pc' := 44) dX12_lease_23 rfl rfl ⟨fun c => ?_, fun c => ?_⟩
    · replace k := k.1 c
      refine w_ldc_w dX12_lease_44 l_12_270 ?_
      exact w_freturn dX12_lease_47 rfl k
    · replace k := k.2 c
      refine w_aload_n dX12_lease_26 rfl ?_
      refine w_getR dX12_lease_27 f_12_75 t_12_23 g1 ?_
      refine w_iload_n dX12_lease_30 rfl ?_
      obtain ⟨g4, k⟩ := k
      obtain ⟨g5, k⟩ := k
      refine w_baload dX12_lease_31 g4 g5 ?_
      refine w_if_eq (pc' := 44) dX12_lease_32 rfl rfl ⟨fun c => ?_, fun c => ?_⟩
      · replace k := k.1 c
        refine w_ldc_w dX12_lease_44 l_12_270 ?_
        exact w_freturn dX12_lease_47 rfl k
      · replace k := k.2 c
        refine w_aload_n dX12_lease_35 rfl ?_
        refine w_getR dX12_lease_36 f_12_78 t_12_24 g1 ?_
        refine w_iload_n dX12_lease_39 rfl ?_
        obtain ⟨g6, k⟩ := k
        obtain ⟨g7, k⟩ := k
        refine w_faload dX12_lease_40 g6 g7 ?_
        refine w_goto (pc' := 47) dX12_lease_41 rfl rfl ?_
        exact w_freturn dX12_lease_47 rfl k
  · replace k := k.2 c
    refine w_fconst0 dX12_lease_14 ?_
    exact w_freturn dX12_lease_15 rfl k
theorem bX12_leases__0 {d : Nat} {h : HP} {Q : Out → HP → Prop} {v0 : Nat} {u1 : Option Value} {u2 : Option Value} (k : (hK h v0 = 12) ∧ (WP d mX12_leases_ 9 [some (.ref v0), some (.int (0 : Int32)), some (.int (0 : Int32))] [] (sI h 1250 v0 (0 : Int32)) Q)) : WP d mX12_leases_ 0 [some (.ref v0), u1, u2] [] h Q := by
  refine w_aload_n dX12_leases__0 rfl ?_
  refine w_iconst dX12_leases__1 i1_0 ?_
  obtain ⟨g1, k⟩ := k
  refine w_putI dX12_leases__2 f_12_151 t_12_50 (pf_nf n_12_50) g1 ?_
  refine w_iconst dX12_leases__5 i1_0 ?_
  refine w_istore_n (lo' := [some (.ref v0), some (.int (0 : Int32)), u2]) dX12_leases__6 (ltQ rfl) rfl ?_
  refine w_iconst dX12_leases__7 i1_0 ?_
  refine w_istore_n (lo' := [some (.ref v0), some (.int (0 : Int32)), some (.int (0 : Int32))]) dX12_leases__8 (ltQ rfl) rfl ?_
  exact k
theorem bX12_leases__9 {d : Nat} {h : HP} {Q : Out → HP → Prop} {v0 : Nat} {v1 : Int32} {v2 : Int32} (k : (hK h v0 = 12) ∧ ((((hI h 1200 v0) ≤ v2) → Q (.inl (some (.int v1))) h) ∧ ((¬ ((hI h 1200 v0) ≤ v2)) → (1 < v0) ∧ (WP d mX12_holdsLease 0 [some (.ref v0), some (.int v2)] [] h (KK d mX12_leases_ mX12_holdsLease 20 [some (.ref v0), some (.int v1), some (.int v2)] [.int v1] Q))))) : WP (d + 1) mX12_leases_ 9 [some (.ref v0), some (.int v1), some (.int v2)] [] h Q := by
  refine w_iload_n dX12_leases__9 rfl ?_
  refine w_aload_n dX12_leases__10 rfl ?_
  obtain ⟨g1, k⟩ := k
  refine w_getI dX12_leases__11 f_12_7 t_12_0 g1 ?_
  refine w_ic_ge (pc' := 39) dX12_leases__14 rfl rfl ⟨fun c => ?_, fun c => ?_⟩
  · replace k := k.1 c
    refine w_iload_n dX12_leases__39 rfl ?_
    exact w_ireturn dX12_leases__40 rfl k
  · replace k := k.2 c
    refine w_iload_n dX12_leases__17 rfl ?_
    refine w_aload_n dX12_leases__18 rfl ?_
    refine w_iload_n dX12_leases__19 rfl ?_
    obtain ⟨g2, k⟩ := k
    exact w_virt (as1 := [.int v2, .ref v0]) (as2 := [.ref v0, .int v2]) (rest := [.int v1]) (lo2 := [some (.ref v0), some (.int v2)]) dX12_leases__20 c_12_264 rfl rfl rfl (Nat.le_of_ble_eq_true rfl) (Nat.le_of_ble_eq_true rfl) rfl (Nat.le_of_ble_eq_true rfl) rfl rfl g2 g1 k
theorem bX12_leases__23 {d : Nat} {h : HP} {Q : Out → HP → Prop} {v0 : Nat} {v1 : Int32} {v2 : Int32} {s0 : Int32} {s1 : Int32} (k : ((s0 = 0) → WP d mX12_leases_ 9 [some (.ref v0), some (.int (s1 + (0 : Int32))), some (.int (v2 + (1 : Int32)))] [] h Q) ∧ ((¬ (s0 = 0)) → WP d mX12_leases_ 9 [some (.ref v0), some (.int (s1 + (1 : Int32))), some (.int (v2 + (1 : Int32)))] [] h Q)) : WP d mX12_leases_ 23 [some (.ref v0), some (.int v1), some (.int v2)] [.int s0, .int s1] h Q := by
  refine w_if_eq (pc' := 30) dX12_leases__23 rfl rfl ⟨fun c => ?_, fun c => ?_⟩
  · replace k := k.1 c
    refine w_iconst dX12_leases__30 i1_0 ?_
    refine w_iadd dX12_leases__31 ?_
    refine w_istore_n (lo' := [some (.ref v0), some (.int (s1 + (0 : Int32))), some (.int v2)]) dX12_leases__32 (ltQ rfl) rfl ?_
    refine w_iinc (lo' := [some (.ref v0), some (.int (s1 + (0 : Int32))), some (.int (v2 + (1 : Int32)))]) dX12_leases__33 rfl i1_1 rfl ?_
    refine w_goto (pc' := 9) dX12_leases__36 rfl rfl ?_
    exact k
  · replace k := k.2 c
    refine w_iconst dX12_leases__26 i1_1 ?_
    refine w_goto (pc' := 31) dX12_leases__27 rfl rfl ?_
    refine w_iadd dX12_leases__31 ?_
    refine w_istore_n (lo' := [some (.ref v0), some (.int (s1 + (1 : Int32))), some (.int v2)]) dX12_leases__32 (ltQ rfl) rfl ?_
    refine w_iinc (lo' := [some (.ref v0), some (.int (s1 + (1 : Int32))), some (.int (v2 + (1 : Int32)))]) dX12_leases__33 rfl i1_1 rfl ?_
    refine w_goto (pc' := 9) dX12_leases__36 rfl rfl ?_
    exact k
theorem bX12_decision_0 {d : Nat} {h : HP} {Q : Out → HP → Prop} {v0 : Nat} {v1 : Int32} {v2 : Int32} {v3 : Int32} {u4 : Option Value} {u5 : Option Value} (k : (1 < v0) ∧ ((hK h v0 = 12) ∧ (WP d mX12_isMachine 0 [some (.ref v0), some (.int v1)] [] h (KK d mX12_decision mX12_isMachine 2 [some (.ref v0), some (.int v1), some (.int v2), some (.int v3), u4, u5] [] Q)))) : WP (d + 1) mX12_decision 0 [some (.ref v0), some (.int v1), some (.int v2), some (.int v3), u4, u5] [] h Q := by
  refine w_aload_n dX12_decision_0 rfl ?_
  refine w_iload_n dX12_decision_1 rfl ?_
  obtain ⟨g1, k⟩ := k
  obtain ⟨g2, k⟩ := k
  exact w_virt (as1 := [.int v1, .ref v0]) (as2 := [.ref v0, .int v1]) (rest := []) (lo2 := [some (.ref v0), some (.int v1)]) dX12_decision_2 c_12_181 rfl rfl rfl (Nat.le_of_ble_eq_true rfl) (Nat.le_of_ble_eq_true rfl) rfl (Nat.le_of_ble_eq_true rfl) rfl rfl g1 g2 k
theorem bX12_decision_5 {d : Nat} {h : HP} {Q : Out → HP → Prop} {v0 : Nat} {v1 : Int32} {v2 : Int32} {v3 : Int32} {u4 : Option Value} {u5 : Option Value} {s0 : Int32} (k : ((s0 = 0) → WP d mX12_in 0 [some (.int v3), some (.int (0 : Int32)), some (.int (3 : Int32))] [] h (KK d mX12_decision mX12_in 30 [some (.ref v0), some (.int v1), some (.int v2), some (.int v3), some (.int (0 : Int32)), u5] [.int (0 : Int32), .ref v0] Q)) ∧ ((¬ (s0 = 0)) → WP d mX12_in 0 [some (.int v2), some (.int (0 : Int32)), some (.int (3 : Int32))] [] h (KK d mX12_decision mX12_in 11 [some (.ref v0), some (.int v1), some (.int v2), some (.int v3), u4, u5] [] Q))) : WP (d + 1) mX12_decision 5 [some (.ref v0), some (.int v1), some (.int v2), some (.int v3), u4, u5] [.int s0] h Q := by
  refine w_if_eq (pc' := 21) dX12_decision_5 rfl rfl ⟨fun c => ?_, fun c => ?_⟩
  · replace k := k.1 c
    refine w_iconst dX12_decision_21 i1_0 ?_
    refine w_istore (lo' := [some (.ref v0), some (.int v1), some (.int v2), some (.int v3), some (.int (0 : Int32)), u5]) dX12_decision_22 (ltQ rfl) rfl ?_
    refine w_aload_n dX12_decision_24 rfl ?_
    refine w_iload dX12_decision_25 rfl ?_
    refine w_iload_n dX12_decision_27 rfl ?_
    refine w_iconst dX12_decision_28 i1_0 ?_
    refine w_iconst dX12_decision_29 i1_3 ?_
    exact w_stat (as1 := [.int (3 : Int32), .int (0 : Int32), .int v3]) (as2 := [.int v3, .int (0 : Int32), .int (3 : Int32)]) (rest := [.int (0 : Int32), .ref v0]) (lo2 := [some (.int v3), some (.int (0 : Int32)), some (.int (3 : Int32))]) dX12_decision_30 c_12_154 rfl rfl rfl (Nat.le_of_ble_eq_true rfl) (Nat.le_of_ble_eq_true rfl) rfl (Nat.le_of_ble_eq_true rfl) rfl k
  · replace k := k.2 c
    refine w_iload_n dX12_decision_8 rfl ?_
    refine w_iconst dX12_decision_9 i1_0 ?_
    refine w_iconst dX12_decision_10 i1_3 ?_
    exact w_stat (as1 := [.int (3 : Int32), .int (0 : Int32), .int v2]) (as2 := [.int v2, .int (0 : Int32), .int (3 : Int32)]) (rest := []) (lo2 := [some (.int v2), some (.int (0 : Int32)), some (.int (3 : Int32))]) dX12_decision_11 c_12_154 rfl rfl rfl (Nat.le_of_ble_eq_true rfl) (Nat.le_of_ble_eq_true rfl) rfl (Nat.le_of_ble_eq_true rfl) rfl k
theorem bX12_decision_14 {d : Nat} {h : HP} {Q : Out → HP → Prop} {v0 : Nat} {v1 : Int32} {v2 : Int32} {v3 : Int32} {u4 : Option Value} {u5 : Option Value} {s0 : Int32} (k : ((s0 = 0) → WP d mX12_in 0 [some (.int v3), some (.int (0 : Int32)), some (.int (3 : Int32))] [] h (KK d mX12_decision mX12_in 30 [some (.ref v0), some (.int v1), some (.int v2), some (.int v3), some (.int (0 : Int32)), u5] [.int (0 : Int32), .ref v0] Q)) ∧ ((¬ (s0 = 0)) → WP d mX12_in 0 [some (.int v3), some (.int (0 : Int32)), some (.int (3 : Int32))] [] h (KK d mX12_decision mX12_in 30 [some (.ref v0), some (.int v1), some (.int v2), some (.int v3), some (.int (1 : Int32)), u5] [.int (1 : Int32), .ref v0] Q))) : WP (d + 1) mX12_decision 14 [some (.ref v0), some (.int v1), some (.int v2), some (.int v3), u4, u5] [.int s0] h Q := by
  refine w_if_eq (pc' := 21) dX12_decision_14 rfl rfl ⟨fun c => ?_, fun c => ?_⟩
  · replace k := k.1 c
    refine w_iconst dX12_decision_21 i1_0 ?_
    refine w_istore (lo' := [some (.ref v0), some (.int v1), some (.int v2), some (.int v3), some (.int (0 : Int32)), u5]) dX12_decision_22 (ltQ rfl) rfl ?_
    refine w_aload_n dX12_decision_24 rfl ?_
    refine w_iload dX12_decision_25 rfl ?_
    refine w_iload_n dX12_decision_27 rfl ?_
    refine w_iconst dX12_decision_28 i1_0 ?_
    refine w_iconst dX12_decision_29 i1_3 ?_
    exact w_stat (as1 := [.int (3 : Int32), .int (0 : Int32), .int v3]) (as2 := [.int v3, .int (0 : Int32), .int (3 : Int32)]) (rest := [.int (0 : Int32), .ref v0]) (lo2 := [some (.int v3), some (.int (0 : Int32)), some (.int (3 : Int32))]) dX12_decision_30 c_12_154 rfl rfl rfl (Nat.le_of_ble_eq_true rfl) (Nat.le_of_ble_eq_true rfl) rfl (Nat.le_of_ble_eq_true rfl) rfl k
  · replace k := k.2 c
    refine w_iconst dX12_decision_17 i1_1 ?_
    refine w_goto (pc' := 22) dX12_decision_18 rfl rfl ?_
    refine w_istore (lo' := [some (.ref v0), some (.int v1), some (.int v2), some (.int v3), some (.int (1 : Int32)), u5]) dX12_decision_22 (ltQ rfl) rfl ?_
    refine w_aload_n dX12_decision_24 rfl ?_
    refine w_iload dX12_decision_25 rfl ?_
    refine w_iload_n dX12_decision_27 rfl ?_
    refine w_iconst dX12_decision_28 i1_0 ?_
    refine w_iconst dX12_decision_29 i1_3 ?_
    exact w_stat (as1 := [.int (3 : Int32), .int (0 : Int32), .int v3]) (as2 := [.int v3, .int (0 : Int32), .int (3 : Int32)]) (rest := [.int (1 : Int32), .ref v0]) (lo2 := [some (.int v3), some (.int (0 : Int32)), some (.int (3 : Int32))]) dX12_decision_30 c_12_154 rfl rfl rfl (Nat.le_of_ble_eq_true rfl) (Nat.le_of_ble_eq_true rfl) rfl (Nat.le_of_ble_eq_true rfl) rfl k
theorem bX12_decision_33 {d : Nat} {h : HP} {Q : Out → HP → Prop} {v0 : Nat} {v1 : Int32} {v2 : Int32} {v3 : Int32} {v4 : Int32} {u5 : Option Value} {s0 : Int32} {s1 : Int32} {s2 : Nat} (k : (1 < s2) ∧ ((hK h s2 = 12) ∧ (WP d mX12_goes 0 [some (.ref s2), some (.int s1), some (.int s0), some (.int (1 : Int32))] [] h (KK d mX12_decision mX12_goes 34 [some (.ref v0), some (.int v1), some (.int v2), some (.int v3), some (.int v4), u5] [] Q)))) : WP (d + 1) mX12_decision 33 [some (.ref v0), some (.int v1), some (.int v2), some (.int v3), some (.int v4), u5] [.int s0, .int s1, .ref s2] h Q := by
  refine w_iconst dX12_decision_33 i1_1 ?_
  obtain ⟨g1, k⟩ := k
  obtain ⟨g2, k⟩ := k
  exact w_virt (as1 := [.int (1 : Int32), .int s0, .int s1, .ref s2]) (as2 := [.ref s2, .int s1, .int s0, .int (1 : Int32)]) (rest := []) (lo2 := [some (.ref s2), some (.int s1), some (.int s0), some (.int (1 : Int32))]) dX12_decision_34 c_12_173 rfl rfl rfl (Nat.le_of_ble_eq_true rfl) (Nat.le_of_ble_eq_true rfl) rfl (Nat.le_of_ble_eq_true rfl) rfl rfl g1 g2 k
theorem bX12_decision_37 {d : Nat} {h : HP} {Q : Out → HP → Prop} {v0 : Nat} {v1 : Int32} {v2 : Int32} {v3 : Int32} {v4 : Int32} {u5 : Option Value} {s0 : Int32} (k : ((¬ s0 = 0) → ((¬ v3 = 0) → ((¬ v3 = (1 : Int32)) → ((¬ v3 = (2 : Int32)) → (hK h v0 = 12) ∧ ((hK h (hR h 1230 v0) = 20) ∧ ((inA h (hR h 1230 v0) (((4 : Int32) * v1) + v2) = true) ∧ (Q (.inl (some (.int (hAI h (hR h 1230 v0) ((((4 : Int32) * v1) + v2)).toNatClampNeg)))) h)))) ∧ ((¬ (¬ v3 = (2 : Int32))) → (hK h v0 = 12) ∧ ((hK h (hR h 1229 v0) = 20) ∧ ((inA h (hR h 1229 v0) (((4 : Int32) * v1) + v2) = true) ∧ (Q (.inl (some (.int (hAI h (hR h 1229 v0) ((((4 : Int32) * v1) + v2)).toNatClampNeg)))) h))))) ∧ ((¬ (¬ v3 = (1 : Int32))) → (hK h v0 = 12) ∧ ((hK h (hR h 1228 v0) = 20) ∧ ((inA h (hR h 1228 v0) (((4 : Int32) * v1) + v2) = true) ∧ (Q (.inl (some (.int (hAI h (hR h 1228 v0) ((((4 : Int32) * v1) + v2)).toNatClampNeg)))) h))))) ∧ ((¬ (¬ v3 = 0)) → (hK h v0 = 12) ∧ ((hK h (hR h 1227 v0) = 20) ∧ ((inA h (hR h 1227 v0) (((4 : Int32) * v1) + v2) = true) ∧ (Q (.inl (some (.int (hAI h (hR h 1227 v0) ((((4 : Int32) * v1) + v2)).toNatClampNeg)))) h))))) ∧ ((¬ (¬ s0 = 0)) → Q (.inl (some (.int (0 : Int32)))) h)) : WP d mX12_decision 37 [some (.ref v0), some (.int v1), some (.int v2), some (.int v3), some (.int v4), u5] [.int s0] h Q := by
  refine w_if_ne (pc' := 42) dX12_decision_37 rfl rfl ⟨fun c => ?_, fun c => ?_⟩
  · replace k := k.1 c
    refine w_iconst dX12_decision_42 i1_4 ?_
    refine w_iload_n dX12_decision_43 rfl ?_
    refine w_imul dX12_decision_44 ?_
    refine w_iload_n dX12_decision_45 rfl ?_
    refine w_iadd dX12_decision_46 ?_
    refine w_istore (lo' := [some (.ref v0), some (.int v1), some (.int v2), some (.int v3), some (.int v4), some (.int (((4 : Int32) * v1) + v2))]) dX12_decision_47 (ltQ rfl) rfl ?_
    refine w_iload_n dX12_decision_49 rfl ?_
    refine w_if_ne (pc' := 63) dX12_decision_50 rfl rfl ⟨fun c => ?_, fun c => ?_⟩
    · replace k := k.1 c
      refine w_iload_n dX12_decision_63 rfl ?_
      refine w_iconst dX12_decision_64 i1_1 ?_
      refine w_ic_ne (pc' := 78) dX12_decision_65 rfl rfl ⟨fun c => ?_, fun c => ?_⟩
      · replace k := k.1 c
        refine w_iload_n dX12_decision_78 rfl ?_
        refine w_iconst dX12_decision_79 i1_2 ?_
        refine w_ic_ne (pc' := 93) dX12_decision_80 rfl rfl ⟨fun c => ?_, fun c => ?_⟩
        · replace k := k.1 c
          refine w_aload_n dX12_decision_93 rfl ?_
          obtain ⟨g1, k⟩ := k
          refine w_getR dX12_decision_94 f_12_96 t_12_30 g1 ?_
          refine w_iload dX12_decision_97 rfl ?_
          obtain ⟨g2, k⟩ := k
          obtain ⟨g3, k⟩ := k
          refine w_iaload dX12_decision_99 g2 g3 ?_
          exact w_ireturn dX12_decision_100 rfl k
        · replace k := k.2 c
          refine w_aload_n dX12_decision_83 rfl ?_
          obtain ⟨g4, k⟩ := k
          refine w_getR dX12_decision_84 f_12_93 t_12_29 g4 ?_
          refine w_iload dX12_decision_87 rfl ?_
          obtain ⟨g5, k⟩ := k
          obtain ⟨g6, k⟩ := k
          refine w_iaload dX12_decision_89 g5 g6 ?_
          refine w_goto (pc' := 100) dX12_decision_90 rfl rfl ?_
          exact w_ireturn dX12_decision_100 rfl k
      · replace k := k.2 c
        refine w_aload_n dX12_decision_68 rfl ?_
        obtain ⟨g7, k⟩ := k
        refine w_getR dX12_decision_69 f_12_90 t_12_28 g7 ?_
        refine w_iload dX12_decision_72 rfl ?_
        obtain ⟨g8, k⟩ := k
        obtain ⟨g9, k⟩ := k
        refine w_iaload dX12_decision_74 g8 g9 ?_
        refine w_goto (pc' := 100) dX12_decision_75 rfl rfl ?_
        exact w_ireturn dX12_decision_100 rfl k
    · replace k := k.2 c
      refine w_aload_n dX12_decision_53 rfl ?_
      obtain ⟨g10, k⟩ := k
      refine w_getR dX12_decision_54 f_12_87 t_12_27 g10 ?_
      refine w_iload dX12_decision_57 rfl ?_
      obtain ⟨g11, k⟩ := k
      obtain ⟨g12, k⟩ := k
      refine w_iaload dX12_decision_59 g11 g12 ?_
      refine w_goto (pc' := 100) dX12_decision_60 rfl rfl ?_
      exact w_ireturn dX12_decision_100 rfl k
  · replace k := k.2 c
    refine w_iconst dX12_decision_40 i1_0 ?_
    exact w_ireturn dX12_decision_41 rfl k
theorem bX12_acts__0 {d : Nat} {h : HP} {Q : Out → HP → Prop} {v0 : Nat} (k : (hK h v0 = 12) ∧ (Q (.inl (some (.int (hI (sI h 1250 v0 (0 : Int32)) 1247 v0)))) (sI h 1250 v0 (0 : Int32)))) : WP d mX12_acts_ 0 [some (.ref v0)] [] h Q := by
  refine w_aload_n dX12_acts__0 rfl ?_
  refine w_iconst dX12_acts__1 i1_0 ?_
  obtain ⟨g1, k⟩ := k
  refine w_putI dX12_acts__2 f_12_151 t_12_50 (pf_nf n_12_50) g1 ?_
  refine w_aload_n dX12_acts__5 rfl ?_
  refine w_getI dX12_acts__6 f_12_170 t_12_47 g1 ?_
  exact w_ireturn dX12_acts__9 rfl k
theorem bX12_act_0 {d : Nat} {h : HP} {Q : Out → HP → Prop} {v0 : Nat} {v1 : Int32} {v2 : Int32} (k : (hK h v0 = 12) ∧ (WP d mX12_in 0 [some (.int v1), some (.int (0 : Int32)), some (.int ((hI h 1247 v0) - (1 : Int32)))] [] h (KK d mX12_act mX12_in 9 [some (.ref v0), some (.int v1), some (.int v2)] [.ref v0] Q))) : WP (d + 1) mX12_act 0 [some (.ref v0), some (.int v1), some (.int v2)] [] h Q := by
  refine w_aload_n dX12_act_0 rfl ?_
  refine w_iload_n dX12_act_1 rfl ?_
  refine w_iconst dX12_act_2 i1_0 ?_
  refine w_aload_n dX12_act_3 rfl ?_
  obtain ⟨g1, k⟩ := k
  refine w_getI dX12_act_4 f_12_170 t_12_47 g1 ?_
  refine w_iconst dX12_act_7 i1_1 ?_
  refine w_isub dX12_act_8 ?_
  exact w_stat (as1 := [.int ((hI h 1247 v0) - (1 : Int32)), .int (0 : Int32), .int v1]) (as2 := [.int v1, .int (0 : Int32), .int ((hI h 1247 v0) - (1 : Int32))]) (rest := [.ref v0]) (lo2 := [some (.int v1), some (.int (0 : Int32)), some (.int ((hI h 1247 v0) - (1 : Int32)))]) dX12_act_9 c_12_154 rfl rfl rfl (Nat.le_of_ble_eq_true rfl) (Nat.le_of_ble_eq_true rfl) rfl (Nat.le_of_ble_eq_true rfl) rfl k
theorem bX12_act_12 {d : Nat} {h : HP} {Q : Out → HP → Prop} {v0 : Nat} {v1 : Int32} {v2 : Int32} {s0 : Int32} {s1 : Nat} (k : WP d mX12_in 0 [some (.int v2), some (.int (0 : Int32)), some (.int (3 : Int32))] [] h (KK d mX12_act mX12_in 15 [some (.ref v0), some (.int v1), some (.int v2)] [.int s0, .ref s1] Q)) : WP (d + 1) mX12_act 12 [some (.ref v0), some (.int v1), some (.int v2)] [.int s0, .ref s1] h Q := by
  refine w_iload_n dX12_act_12 rfl ?_
  refine w_iconst dX12_act_13 i1_0 ?_
  refine w_iconst dX12_act_14 i1_3 ?_
  exact w_stat (as1 := [.int (3 : Int32), .int (0 : Int32), .int v2]) (as2 := [.int v2, .int (0 : Int32), .int (3 : Int32)]) (rest := [.int s0, .ref s1]) (lo2 := [some (.int v2), some (.int (0 : Int32)), some (.int (3 : Int32))]) dX12_act_15 c_12_154 rfl rfl rfl (Nat.le_of_ble_eq_true rfl) (Nat.le_of_ble_eq_true rfl) rfl (Nat.le_of_ble_eq_true rfl) rfl k
theorem bX12_act_18 {d : Nat} {h : HP} {Q : Out → HP → Prop} {v0 : Nat} {v1 : Int32} {v2 : Int32} {s0 : Int32} {s1 : Int32} {s2 : Nat} (k : (1 < s2) ∧ ((hK h s2 = 12) ∧ (WP d mX12_goes 0 [some (.ref s2), some (.int s1), some (.int s0), some (.int (1 : Int32))] [] h (KK d mX12_act mX12_goes 19 [some (.ref v0), some (.int v1), some (.int v2)] [] Q)))) : WP (d + 1) mX12_act 18 [some (.ref v0), some (.int v1), some (.int v2)] [.int s0, .int s1, .ref s2] h Q := by
  refine w_iconst dX12_act_18 i1_1 ?_
  obtain ⟨g1, k⟩ := k
  obtain ⟨g2, k⟩ := k
  exact w_virt (as1 := [.int (1 : Int32), .int s0, .int s1, .ref s2]) (as2 := [.ref s2, .int s1, .int s0, .int (1 : Int32)]) (rest := []) (lo2 := [some (.ref s2), some (.int s1), some (.int s0), some (.int (1 : Int32))]) dX12_act_19 c_12_173 rfl rfl rfl (Nat.le_of_ble_eq_true rfl) (Nat.le_of_ble_eq_true rfl) rfl (Nat.le_of_ble_eq_true rfl) rfl rfl g1 g2 k
theorem bX12_act_22 {d : Nat} {h : HP} {Q : Out → HP → Prop} {v0 : Nat} {v1 : Int32} {v2 : Int32} {s0 : Int32} (k : ((¬ s0 = 0) → ((¬ v2 = 0) → ((¬ v2 = (1 : Int32)) → ((¬ v2 = (2 : Int32)) → (hK h v0 = 12) ∧ ((hK h (hR h 1246 v0) = 20) ∧ ((inA h (hR h 1246 v0) v1 = true) ∧ (Q (.inl (some (.int (hAI h (hR h 1246 v0) (v1).toNatClampNeg)))) h)))) ∧ ((¬ (¬ v2 = (2 : Int32))) → (hK h v0 = 12) ∧ ((hK h (hR h 1245 v0) = 20) ∧ ((inA h (hR h 1245 v0) v1 = true) ∧ (Q (.inl (some (.int (hAI h (hR h 1245 v0) (v1).toNatClampNeg)))) h))))) ∧ ((¬ (¬ v2 = (1 : Int32))) → (hK h v0 = 12) ∧ ((hK h (hR h 1244 v0) = 20) ∧ ((inA h (hR h 1244 v0) v1 = true) ∧ (Q (.inl (some (.int (hAI h (hR h 1244 v0) (v1).toNatClampNeg)))) h))))) ∧ ((¬ (¬ v2 = 0)) → (hK h v0 = 12) ∧ ((hK h (hR h 1241 v0) = 21) ∧ ((inA h (hR h 1241 v0) v1 = true) ∧ ((((hAI h (hR h 1241 v0) (v1).toNatClampNeg) = 0) → Q (.inl (some (.int (0 : Int32)))) h) ∧ ((¬ ((hAI h (hR h 1241 v0) (v1).toNatClampNeg) = 0)) → Q (.inl (some (.int (1 : Int32)))) h)))))) ∧ ((¬ (¬ s0 = 0)) → Q (.inl (some (.int (0 : Int32)))) h)) : WP d mX12_act 22 [some (.ref v0), some (.int v1), some (.int v2)] [.int s0] h Q := by
  refine w_if_ne (pc' := 27) dX12_act_22 rfl rfl ⟨fun c => ?_, fun c => ?_⟩
  · replace k := k.1 c
    refine w_iload_n dX12_act_27 rfl ?_
    refine w_if_ne (pc' := 48) dX12_act_28 rfl rfl ⟨fun c => ?_, fun c => ?_⟩
    · replace k := k.1 c
      refine w_iload_n dX12_act_48 rfl ?_
      refine w_iconst dX12_act_49 i1_1 ?_
      refine w_ic_ne (pc' := 62) dX12_act_50 rfl rfl ⟨fun c => ?_, fun c => ?_⟩
      · replace k := k.1 c
        refine w_iload_n dX12_act_62 rfl ?_
        refine w_iconst dX12_act_63 i1_2 ?_
        refine w_ic_ne (pc' := 76) dX12_act_64 rfl rfl ⟨fun c => ?_, fun c => ?_⟩
        · replace k := k.1 c
          refine w_aload_n dX12_act_76 rfl ?_
          obtain ⟨g1, k⟩ := k
          refine w_getR dX12_act_77 f_12_138 t_12_46 g1 ?_
          refine w_iload_n dX12_act_80 rfl ?_
          obtain ⟨g2, k⟩ := k
          obtain ⟨g3, k⟩ := k
          refine w_iaload dX12_act_81 g2 g3 ?_
          exact w_ireturn dX12_act_82 rfl k
        · replace k := k.2 c
          refine w_aload_n dX12_act_67 rfl ?_
          obtain ⟨g4, k⟩ := k
          refine w_getR dX12_act_68 f_12_135 t_12_45 g4 ?_
          refine w_iload_n dX12_act_71 rfl ?_
          obtain ⟨g5, k⟩ := k
          obtain ⟨g6, k⟩ := k
          refine w_iaload dX12_act_72 g5 g6 ?_
          refine w_goto (pc' := 82) dX12_act_73 rfl rfl ?_
          exact w_ireturn dX12_act_82 rfl k
      · replace k := k.2 c
        refine w_aload_n dX12_act_53 rfl ?_
        obtain ⟨g7, k⟩ := k
        refine w_getR dX12_act_54 f_12_132 t_12_44 g7 ?_
        refine w_iload_n dX12_act_57 rfl ?_
        obtain ⟨g8, k⟩ := k
        obtain ⟨g9, k⟩ := k
        refine w_iaload dX12_act_58 g8 g9 ?_
        refine w_goto (pc' := 82) dX12_act_59 rfl rfl ?_
        exact w_ireturn dX12_act_82 rfl k
    · replace k := k.2 c
      refine w_aload_n dX12_act_31 rfl ?_
      obtain ⟨g10, k⟩ := k
      refine w_getR dX12_act_32 f_12_123 t_12_41 g10 ?_
      refine w_iload_n dX12_act_35 rfl ?_
      obtain ⟨g11, k⟩ := k
      obtain ⟨g12, k⟩ := k
      refine w_baload dX12_act_36 g11 g12 ?_
      refine w_if_eq (pc' := 44) dX12_act_37 rfl rfl ⟨fun c => ?_, fun c => ?_⟩
      · replace k := k.1 c
        refine w_iconst dX12_act_44 i1_0 ?_
        refine w_goto (pc' := 82) dX12_act_45 rfl rfl ?_
        exact w_ireturn dX12_act_82 rfl k
      · replace k := k.2 c
        refine w_iconst dX12_act_40 i1_1 ?_
        refine w_goto (pc' := 82) dX12_act_41 rfl rfl ?_
        exact w_ireturn dX12_act_82 rfl k
  · replace k := k.2 c
    refine w_iconst dX12_act_25 i1_0 ?_
    exact w_ireturn dX12_act_26 rfl k
theorem bX12_mayCome_0 {d : Nat} {h : HP} {Q : Out → HP → Prop} {v0 : Nat} {v1 : Int32} {v2 : Int32} {u3 : Option Value} {u4 : Option Value} (k : WP d mX12_mayCome 5 [some (.ref v0), some (.int v1), some (.int v2), some (.int (1 : Int32)), some (.int (0 : Int32))] [] h Q) : WP d mX12_mayCome 0 [some (.ref v0), some (.int v1), some (.int v2), u3, u4] [] h Q := by
  refine w_iconst dX12_mayCome_0 i1_1 ?_
  refine w_istore_n (lo' := [some (.ref v0), some (.int v1), some (.int v2), some (.int (1 : Int32)), u4]) dX12_mayCome_1 (ltQ rfl) rfl ?_
  refine w_iconst dX12_mayCome_2 i1_0 ?_
  refine w_istore (lo' := [some (.ref v0), some (.int v1), some (.int v2), some (.int (1 : Int32)), some (.int (0 : Int32))]) dX12_mayCome_3 (ltQ rfl) rfl ?_
  exact k
theorem bX12_mayCome_5 {d : Nat} {h : HP} {Q : Out → HP → Prop} {v0 : Nat} {v1 : Int32} {v2 : Int32} {v3 : Int32} {v4 : Int32} (k : (hK h v0 = 12) ∧ ((((hI h 1247 v0) ≤ v4) → (isZ v3 = true) ∧ (Q (.inl (some (.int v3))) h)) ∧ ((¬ ((hI h 1247 v0) ≤ v4)) → ((v3 = 0) → WP d mX12_mayCome 5 [some (.ref v0), some (.int v1), some (.int v2), some (.int (0 : Int32)), some (.int (v4 + (1 : Int32)))] [] h Q) ∧ ((¬ (v3 = 0)) → ((((v1 >>> (v4 &&& 31)) &&& (1 : Int32)) = (1 : Int32)) → WP d mX12_mayCome 5 [some (.ref v0), some (.int v1), some (.int v2), some (.int (1 : Int32)), some (.int (v4 + (1 : Int32)))] [] h Q) ∧ ((¬ (((v1 >>> (v4 &&& 31)) &&& (1 : Int32)) = (1 : Int32))) → (hK h (hR h 1246 v0) = 20) ∧ ((inA h (hR h 1246 v0) v4 = true) ∧ ((((hAI h (hR h 1246 v0) (v4).toNatClampNeg) = (-1 : Int32)) → WP d mX12_mayCome 5 [some (.ref v0), some (.int v1), some (.int v2), some (.int (1 : Int32)), some (.int (v4 + (1 : Int32)))] [] h Q) ∧ ((¬ ((hAI h (hR h 1246 v0) (v4).toNatClampNeg) = (-1 : Int32))) → (hK h (hR h 1245 v0) = 20) ∧ ((inA h (hR h 1245 v0) v2 = true) ∧ ((((hAI h (hR h 1246 v0) (v4).toNatClampNeg) < (hAI h (hR h 1245 v0) (v2).toNatClampNeg)) → WP d mX12_mayCome 5 [some (.ref v0), some (.int v1), some (.int v2), some (.int (0 : Int32)), some (.int (v4 + (1 : Int32)))] [] h Q) ∧ ((¬ ((hAI h (hR h 1246 v0) (v4).toNatClampNeg) < (hAI h (hR h 1245 v0) (v2).toNatClampNeg))) → WP d mX12_mayCome 5 [some (.ref v0), some (.int v1), some (.int v2), some (.int (1 : Int32)), some (.int (v4 + (1 : Int32)))] [] h Q))))))))))) : WP d mX12_mayCome 5 [some (.ref v0), some (.int v1), some (.int v2), some (.int v3), some (.int v4)] [] h Q := by
  refine w_iload dX12_mayCome_5 rfl ?_
  refine w_aload_n dX12_mayCome_7 rfl ?_
  obtain ⟨g1, k⟩ := k
  refine w_getI dX12_mayCome_8 f_12_170 t_12_47 g1 ?_
  refine w_ic_ge (pc' := 67) dX12_mayCome_11 rfl rfl ⟨fun c => ?_, fun c => ?_⟩
  · replace k := k.1 c
    refine w_iload_n dX12_mayCome_67 rfl ?_
    obtain ⟨g2, k⟩ := k
    exact w_ireturn dX12_mayCome_68 g2 k
  · replace k := k.2 c
    refine w_iload_n dX12_mayCome_14 rfl ?_
    refine w_if_eq (pc' := 59) dX12_mayCome_15 rfl rfl ⟨fun c => ?_, fun c => ?_⟩
    · replace k := k.1 c
      refine w_iconst dX12_mayCome_59 i1_0 ?_
      refine w_istore_n (lo' := [some (.ref v0), some (.int v1), some (.int v2), some (.int (0 : Int32)), some (.int v4)]) dX12_mayCome_60 (ltQ rfl) rfl ?_
      refine w_iinc (lo' := [some (.ref v0), some (.int v1), some (.int v2), some (.int (0 : Int32)), some (.int (v4 + (1 : Int32)))]) dX12_mayCome_61 rfl i1_1 rfl ?_
      refine w_goto (pc' := 5) dX12_mayCome_64 rfl rfl ?_
      exact k
    · replace k := k.2 c
      refine w_iload_n dX12_mayCome_18 rfl ?_
      refine w_iload dX12_mayCome_19 rfl ?_
      refine w_ishr dX12_mayCome_21 ?_
      refine w_iconst dX12_mayCome_22 i1_1 ?_
      refine w_iand dX12_mayCome_23 ?_
      refine w_iconst dX12_mayCome_24 i1_1 ?_
      refine w_ic_eq (pc' := 55) dX12_mayCome_25 rfl rfl ⟨fun c => ?_, fun c => ?_⟩
      · replace k := k.1 c
        refine w_iconst dX12_mayCome_55 i1_1 ?_
        refine w_goto (pc' := 60) dX12_mayCome_56 rfl rfl ?_
        refine w_istore_n (lo' := [some (.ref v0), some (.int v1), some (.int v2), some (.int (1 : Int32)), some (.int v4)]) dX12_mayCome_60 (ltQ rfl) rfl ?_
        refine w_iinc (lo' := [some (.ref v0), some (.int v1), some (.int v2), some (.int (1 : Int32)), some (.int (v4 + (1 : Int32)))]) dX12_mayCome_61 rfl i1_1 rfl ?_
        refine w_goto (pc' := 5) dX12_mayCome_64 rfl rfl ?_
        exact k
      · replace k := k.2 c
        refine w_aload_n dX12_mayCome_28 rfl ?_
        refine w_getR dX12_mayCome_29 f_12_138 t_12_46 g1 ?_
        refine w_iload dX12_mayCome_32 rfl ?_
        obtain ⟨g3, k⟩ := k
        obtain ⟨g4, k⟩ := k
        refine w_iaload dX12_mayCome_34 g3 g4 ?_
        refine w_iconst dX12_mayCome_35 i1_m1 ?_
        refine w_ic_eq (pc' := 55) dX12_mayCome_36 rfl rfl ⟨fun c => ?_, fun c => ?_⟩
        · replace k := k.1 c
          refine w_iconst dX12_mayCome_55 i1_1 ?_
          refine w_goto (pc' := 60) dX12_mayCome_56 rfl rfl ?_
          refine w_istore_n (lo' := [some (.ref v0), some (.int v1), some (.int v2), some (.int (1 : Int32)), some (.int v4)]) dX12_mayCome_60 (ltQ rfl) rfl ?_
          refine w_iinc (lo' := [some (.ref v0), some (.int v1), some (.int v2), some (.int (1 : Int32)), some (.int (v4 + (1 : Int32)))]) dX12_mayCome_61 rfl i1_1 rfl ?_
          refine w_goto (pc' := 5) dX12_mayCome_64 rfl rfl ?_
          exact k
        · replace k := k.2 c
          refine w_aload_n dX12_mayCome_39 rfl ?_
          refine w_getR dX12_mayCome_40 f_12_138 t_12_46 g1 ?_
          refine w_iload dX12_mayCome_43 rfl ?_
          refine w_iaload dX12_mayCome_45 g3 g4 ?_
          refine w_aload_n dX12_mayCome_46 rfl ?_
          refine w_getR dX12_mayCome_47 f_12_135 t_12_45 g1 ?_
          refine w_iload_n dX12_mayCome_50 rfl ?_
          obtain ⟨g5, k⟩ := k
          obtain ⟨g6, k⟩ := k
          refine w_iaload dX12_mayCome_51 g5 g6 ?_
          refine w_ic_lt (pc' := 59) dX12_mayCome_52 rfl rfl ⟨fun c => ?_, fun c => ?_⟩
          · replace k := k.1 c
            refine w_iconst dX12_mayCome_59 i1_0 ?_
            refine w_istore_n (lo' := [some (.ref v0), some (.int v1), some (.int v2), some (.int (0 : Int32)), some (.int v4)]) dX12_mayCome_60 (ltQ rfl) rfl ?_
            refine w_iinc (lo' := [some (.ref v0), some (.int v1), some (.int v2), some (.int (0 : Int32)), some (.int (v4 + (1 : Int32)))]) dX12_mayCome_61 rfl i1_1 rfl ?_
            refine w_goto (pc' := 5) dX12_mayCome_64 rfl rfl ?_
            exact k
          · replace k := k.2 c
            refine w_iconst dX12_mayCome_55 i1_1 ?_
            refine w_goto (pc' := 60) dX12_mayCome_56 rfl rfl ?_
            refine w_istore_n (lo' := [some (.ref v0), some (.int v1), some (.int v2), some (.int (1 : Int32)), some (.int v4)]) dX12_mayCome_60 (ltQ rfl) rfl ?_
            refine w_iinc (lo' := [some (.ref v0), some (.int v1), some (.int v2), some (.int (1 : Int32)), some (.int (v4 + (1 : Int32)))]) dX12_mayCome_61 rfl i1_1 rfl ?_
            refine w_goto (pc' := 5) dX12_mayCome_64 rfl rfl ?_
            exact k
theorem bX12_isInOrder_0 {d : Nat} {h : HP} {Q : Out → HP → Prop} {v0 : Nat} {u1 : Option Value} {u2 : Option Value} {u3 : Option Value} {u4 : Option Value} {u5 : Option Value} {u6 : Option Value} {u7 : Option Value} (k : (hK h v0 = 12) ∧ (WP d mX12_isInOrder 16 [some (.ref v0), some (.int ((1 : Int32) <<< ((hI (sI h 1250 v0 (0 : Int32)) 1247 v0) &&& 31))), some (.int (0 : Int32)), some (.int (0 : Int32)), u4, u5, u6, u7] [] (sI h 1250 v0 (0 : Int32)) Q)) : WP d mX12_isInOrder 0 [some (.ref v0), u1, u2, u3, u4, u5, u6, u7] [] h Q := by
  refine w_aload_n dX12_isInOrder_0 rfl ?_
  refine w_iconst dX12_isInOrder_1 i1_0 ?_
  obtain ⟨g1, k⟩ := k
  refine w_putI dX12_isInOrder_2 f_12_151 t_12_50 (pf_nf n_12_50) g1 ?_
  refine w_iconst dX12_isInOrder_5 i1_1 ?_
  refine w_aload_n dX12_isInOrder_6 rfl ?_
  refine w_getI dX12_isInOrder_7 f_12_170 t_12_47 g1 ?_
  refine w_ishl dX12_isInOrder_10 ?_
  refine w_istore_n (lo' := [some (.ref v0), some (.int ((1 : Int32) <<< ((hI (sI h 1250 v0 (0 : Int32)) 1247 v0) &&& 31))), u2, u3, u4, u5, u6, u7]) dX12_isInOrder_11 (ltQ rfl) rfl ?_
  refine w_iconst dX12_isInOrder_12 i1_0 ?_
  refine w_istore_n (lo' := [some (.ref v0), some (.int ((1 : Int32) <<< ((hI (sI h 1250 v0 (0 : Int32)) 1247 v0) &&& 31))), some (.int (0 : Int32)), u3, u4, u5, u6, u7]) dX12_isInOrder_13 (ltQ rfl) rfl ?_
  refine w_iconst dX12_isInOrder_14 i1_0 ?_
  refine w_istore_n (lo' := [some (.ref v0), some (.int ((1 : Int32) <<< ((hI (sI h 1250 v0 (0 : Int32)) 1247 v0) &&& 31))), some (.int (0 : Int32)), some (.int (0 : Int32)), u4, u5, u6, u7]) dX12_isInOrder_15 (ltQ rfl) rfl ?_
  exact k
theorem bX12_isInOrder_16 {d : Nat} {h : HP} {Q : Out → HP → Prop} {v0 : Nat} {v1 : Int32} {v2 : Int32} {v3 : Int32} {u4 : Option Value} {u5 : Option Value} {u6 : Option Value} {u7 : Option Value} (k : (hK h v0 = 12) ∧ ((((hI h 1247 v0) ≤ v3) → WP d mX12_isInOrder 52 [some (.ref v0), some (.int v1), some (.int v2), some (.int (0 : Int32)), u4, u5, u6, u7] [] h Q) ∧ ((¬ ((hI h 1247 v0) ≤ v3)) → (hK h (hR h 1246 v0) = 20) ∧ ((inA h (hR h 1246 v0) v3 = true) ∧ (((¬ (hAI h (hR h 1246 v0) (v3).toNatClampNeg) = (-1 : Int32)) → WP d mX12_isInOrder 16 [some (.ref v0), some (.int v1), some (.int (v2 ||| ((1 : Int32) <<< (v3 &&& 31)))), some (.int (v3 + (1 : Int32))), u4, u5, u6, u7] [] h Q) ∧ ((¬ (¬ (hAI h (hR h 1246 v0) (v3).toNatClampNeg) = (-1 : Int32))) → WP d mX12_isInOrder 16 [some (.ref v0), some (.int v1), some (.int (v2 ||| (0 : Int32))), some (.int (v3 + (1 : Int32))), u4, u5, u6, u7] [] h Q)))))) : WP d mX12_isInOrder 16 [some (.ref v0), some (.int v1), some (.int v2), some (.int v3), u4, u5, u6, u7] [] h Q := by
  refine w_iload_n dX12_isInOrder_16 rfl ?_
  refine w_aload_n dX12_isInOrder_17 rfl ?_
  obtain ⟨g1, k⟩ := k
  refine w_getI dX12_isInOrder_18 f_12_170 t_12_47 g1 ?_
  refine w_ic_ge (pc' := 50) dX12_isInOrder_21 rfl rfl ⟨fun c => ?_, fun c => ?_⟩
  · replace k := k.1 c
    refine w_iconst dX12_isInOrder_50 i1_0 ?_
    refine w_istore_n (lo' := [some (.ref v0), some (.int v1), some (.int v2), some (.int (0 : Int32)), u4, u5, u6, u7]) dX12_isInOrder_51 (ltQ rfl) rfl ?_
    exact k
  · replace k := k.2 c
    refine w_iload_n dX12_isInOrder_24 rfl ?_
    refine w_aload_n dX12_isInOrder_25 rfl ?_
    refine w_getR dX12_isInOrder_26 f_12_138 t_12_46 g1 ?_
    refine w_iload_n dX12_isInOrder_29 rfl ?_
    obtain ⟨g2, k⟩ := k
    obtain ⟨g3, k⟩ := k
    refine w_iaload dX12_isInOrder_30 g2 g3 ?_
    refine w_iconst dX12_isInOrder_31 i1_m1 ?_
    refine w_ic_ne (pc' := 39) dX12_isInOrder_32 rfl rfl ⟨fun c => ?_, fun c => ?_⟩
    · replace k := k.1 c
      refine w_iconst dX12_isInOrder_39 i1_1 ?_
      refine w_iload_n dX12_isInOrder_40 rfl ?_
      refine w_ishl dX12_isInOrder_41 ?_
      refine w_ior dX12_isInOrder_42 ?_
      refine w_istore_n (lo' := [some (.ref v0), some (.int v1), some (.int (v2 ||| ((1 : Int32) <<< (v3 &&& 31)))), some (.int v3), u4, u5, u6, u7]) dX12_isInOrder_43 (ltQ rfl) rfl ?_
      refine w_iinc (lo' := [some (.ref v0), some (.int v1), some (.int (v2 ||| ((1 : Int32) <<< (v3 &&& 31)))), some (.int (v3 + (1 : Int32))), u4, u5, u6, u7]) dX12_isInOrder_44 rfl i1_1 rfl ?_
      refine w_goto (pc' := 16) dX12_isInOrder_47 rfl rfl ?_
      exact k
    · replace k := k.2 c
      refine w_iconst dX12_isInOrder_35 i1_0 ?_
      refine w_goto (pc' := 42) dX12_isInOrder_36 rfl rfl ?_
      refine w_ior dX12_isInOrder_42 ?_
      refine w_istore_n (lo' := [some (.ref v0), some (.int v1), some (.int (v2 ||| (0 : Int32))), some (.int v3), u4, u5, u6, u7]) dX12_isInOrder_43 (ltQ rfl) rfl ?_
      refine w_iinc (lo' := [some (.ref v0), some (.int v1), some (.int (v2 ||| (0 : Int32))), some (.int (v3 + (1 : Int32))), u4, u5, u6, u7]) dX12_isInOrder_44 rfl i1_1 rfl ?_
      refine w_goto (pc' := 16) dX12_isInOrder_47 rfl rfl ?_
      exact k
theorem bX12_isInOrder_52 {d : Nat} {h : HP} {Q : Out → HP → Prop} {v0 : Nat} {v1 : Int32} {v2 : Int32} {v3 : Int32} {u4 : Option Value} {u5 : Option Value} {u6 : Option Value} {u7 : Option Value} (k : ((v1 ≤ v3) → (hK h v0 = 12) ∧ ((hK h (hR h 1248 v0) = 20) ∧ ((inA h (hR h 1248 v0) (0 : Int32) = true) ∧ (WP d mX12_isInOrder 81 [some (.ref v0), some (.int v1), some (.int v2), some (.int (0 : Int32)), u4, u5, u6, u7] [] (sAI h (hR h 1248 v0) ((0 : Int32)).toNatClampNeg (16384 : Int32)) Q)))) ∧ ((¬ (v1 ≤ v3)) → (hK h v0 = 12) ∧ ((hK h (hR h 1248 v0) = 20) ∧ ((inA h (hR h 1248 v0) v3 = true) ∧ (WP d mX12_isInOrder 52 [some (.ref v0), some (.int v1), some (.int v2), some (.int (v3 + (1 : Int32))), u4, u5, u6, u7] [] (sAI h (hR h 1248 v0) (v3).toNatClampNeg (0 : Int32)) Q))))) : WP d mX12_isInOrder 52 [some (.ref v0), some (.int v1), some (.int v2), some (.int v3), u4, u5, u6, u7] [] h Q := by
  refine w_iload_n dX12_isInOrder_52 rfl ?_
  refine w_iload_n dX12_isInOrder_53 rfl ?_
  refine w_ic_ge (pc' := 70) dX12_isInOrder_54 rfl rfl ⟨fun c => ?_, fun c => ?_⟩
  · replace k := k.1 c
    refine w_aload_n dX12_isInOrder_70 rfl ?_
    obtain ⟨g1, k⟩ := k
    refine w_getR dX12_isInOrder_71 f_12_141 t_12_48 g1 ?_
    refine w_iconst dX12_isInOrder_74 i1_0 ?_
    refine w_sipush dX12_isInOrder_75 i3_16384 ?_
    obtain ⟨g2, k⟩ := k
    obtain ⟨g3, k⟩ := k
    refine w_iastore dX12_isInOrder_78 g2 g3 ?_
    refine w_iconst dX12_isInOrder_79 i1_0 ?_
    refine w_istore_n (lo' := [some (.ref v0), some (.int v1), some (.int v2), some (.int (0 : Int32)), u4, u5, u6, u7]) dX12_isInOrder_80 (ltQ rfl) rfl ?_
    exact k
  · replace k := k.2 c
    refine w_aload_n dX12_isInOrder_57 rfl ?_
    obtain ⟨g4, k⟩ := k
    refine w_getR dX12_isInOrder_58 f_12_141 t_12_48 g4 ?_
    refine w_iload_n dX12_isInOrder_61 rfl ?_
    refine w_iconst dX12_isInOrder_62 i1_0 ?_
    obtain ⟨g5, k⟩ := k
    obtain ⟨g6, k⟩ := k
    refine w_iastore dX12_isInOrder_63 g5 g6 ?_
    refine w_iinc (lo' := [some (.ref v0), some (.int v1), some (.int v2), some (.int (v3 + (1 : Int32))), u4, u5, u6, u7]) dX12_isInOrder_64 rfl i1_1 rfl ?_
    refine w_goto (pc' := 52) dX12_isInOrder_67 rfl rfl ?_
    exact k
theorem bX12_isInOrder_81 {d : Nat} {h : HP} {Q : Out → HP → Prop} {v0 : Nat} {v1 : Int32} {v2 : Int32} {v3 : Int32} {u4 : Option Value} {u5 : Option Value} {u6 : Option Value} {u7 : Option Value} (k : ((v1 ≤ v3) → Q (.inl (some (.int (0 : Int32)))) h) ∧ ((¬ (v1 ≤ v3)) → (hK h v0 = 12) ∧ ((hK h (hR h 1248 v0) = 20) ∧ ((inA h (hR h 1248 v0) v3 = true) ∧ ((((hAI h (hR h 1248 v0) (v3).toNatClampNeg) = 0) → WP d mX12_isInOrder 107 [some (.ref v0), some (.int v1), some (.int v2), some (.int v3), some (.int (0 : Int32)), u5, u6, u7] [] h Q) ∧ ((¬ ((hAI h (hR h 1248 v0) (v3).toNatClampNeg) = 0)) → ((¬ (v3 &&& v2) = v2) → WP d mX12_isInOrder 107 [some (.ref v0), some (.int v1), some (.int v2), some (.int v3), some (.int (0 : Int32)), u5, u6, u7] [] h Q) ∧ ((¬ (¬ (v3 &&& v2) = v2)) → Q (.inl (some (.int (1 : Int32)))) h))))))) : WP d mX12_isInOrder 81 [some (.ref v0), some (.int v1), some (.int v2), some (.int v3), u4, u5, u6, u7] [] h Q := by
  refine w_iload_n dX12_isInOrder_81 rfl ?_
  refine w_iload_n dX12_isInOrder_82 rfl ?_
  refine w_ic_ge (pc' := 266) dX12_isInOrder_83 rfl rfl ⟨fun c => ?_, fun c => ?_⟩
  · replace k := k.1 c
    refine w_iconst dX12_isInOrder_266 i1_0 ?_
    exact w_ireturn dX12_isInOrder_267 rfl k
  · replace k := k.2 c
    refine w_aload_n dX12_isInOrder_86 rfl ?_
    obtain ⟨g1, k⟩ := k
    refine w_getR dX12_isInOrder_87 f_12_141 t_12_48 g1 ?_
    refine w_iload_n dX12_isInOrder_90 rfl ?_
    obtain ⟨g2, k⟩ := k
    obtain ⟨g3, k⟩ := k
    refine w_iaload dX12_isInOrder_91 g2 g3 ?_
    refine w_if_eq (pc' := 104) dX12_isInOrder_92 rfl rfl ⟨fun c => ?_, fun c => ?_⟩
    · replace k := k.1 c
      refine w_iconst dX12_isInOrder_104 i1_0 ?_
      refine w_istore (lo' := [some (.ref v0), some (.int v1), some (.int v2), some (.int v3), some (.int (0 : Int32)), u5, u6, u7]) dX12_isInOrder_105 (ltQ rfl) rfl ?_
      exact k
    · replace k := k.2 c
      refine w_iload_n dX12_isInOrder_95 rfl ?_
      refine w_iload_n dX12_isInOrder_96 rfl ?_
      refine w_iand dX12_isInOrder_97 ?_
      refine w_iload_n dX12_isInOrder_98 rfl ?_
      refine w_ic_ne (pc' := 104) dX12_isInOrder_99 rfl rfl ⟨fun c => ?_, fun c => ?_⟩
      · replace k := k.1 c
        refine w_iconst dX12_isInOrder_104 i1_0 ?_
        refine w_istore (lo' := [some (.ref v0), some (.int v1), some (.int v2), some (.int v3), some (.int (0 : Int32)), u5, u6, u7]) dX12_isInOrder_105 (ltQ rfl) rfl ?_
        exact k
      · replace k := k.2 c
        refine w_iconst dX12_isInOrder_102 i1_1 ?_
        exact w_ireturn dX12_isInOrder_103 rfl k
theorem bX12_isInOrder_107 {d : Nat} {h : HP} {Q : Out → HP → Prop} {v0 : Nat} {v1 : Int32} {v2 : Int32} {v3 : Int32} {v4 : Int32} {u5 : Option Value} {u6 : Option Value} {u7 : Option Value} (k : (hK h v0 = 12) ∧ ((((hI h 1247 v0) ≤ v4) → WP (d + 1) mX12_isInOrder 81 [some (.ref v0), some (.int v1), some (.int v2), some (.int (v3 + (1 : Int32))), some (.int v4), u5, u6, u7] [] h Q) ∧ ((¬ ((hI h 1247 v0) ≤ v4)) → (hK h (hR h 1248 v0) = 20) ∧ ((inA h (hR h 1248 v0) v3 = true) ∧ ((((hAI h (hR h 1248 v0) (v3).toNatClampNeg) = 0) → WP (d + 1) mX12_isInOrder 81 [some (.ref v0), some (.int v1), some (.int v2), some (.int (v3 + (1 : Int32))), some (.int v4), u5, u6, u7] [] h Q) ∧ ((¬ ((hAI h (hR h 1248 v0) (v3).toNatClampNeg) = 0)) → ((¬ ((v3 >>> (v4 &&& 31)) &&& (1 : Int32)) = 0) → WP (d + 1) mX12_isInOrder 107 [some (.ref v0), some (.int v1), some (.int v2), some (.int v3), some (.int (v4 + (1 : Int32))), u5, u6, u7] [] h Q) ∧ ((¬ (¬ ((v3 >>> (v4 &&& 31)) &&& (1 : Int32)) = 0)) → (1 < v0) ∧ (WP d mX12_mayCome 0 [some (.ref v0), some (.int v3), some (.int v4), none, none] [] h (KK d mX12_isInOrder mX12_mayCome 138 [some (.ref v0), some (.int v1), some (.int v2), some (.int v3), some (.int v4), u5, u6, u7] [] Q))))))))) : WP (d + 1) mX12_isInOrder 107 [some (.ref v0), some (.int v1), some (.int v2), some (.int v3), some (.int v4), u5, u6, u7] [] h Q := by
  refine w_iload dX12_isInOrder_107 rfl ?_
  refine w_aload_n dX12_isInOrder_109 rfl ?_
  obtain ⟨g1, k⟩ := k
  refine w_getI dX12_isInOrder_110 f_12_170 t_12_47 g1 ?_
  refine w_ic_ge (pc' := 260) dX12_isInOrder_113 rfl rfl ⟨fun c => ?_, fun c => ?_⟩
  · replace k := k.1 c
    refine w_iinc (lo' := [some (.ref v0), some (.int v1), some (.int v2), some (.int (v3 + (1 : Int32))), some (.int v4), u5, u6, u7]) dX12_isInOrder_260 rfl i1_1 rfl ?_
    refine w_goto (pc' := 81) dX12_isInOrder_263 rfl rfl ?_
    exact k
  · replace k := k.2 c
    refine w_aload_n dX12_isInOrder_116 rfl ?_
    refine w_getR dX12_isInOrder_117 f_12_141 t_12_48 g1 ?_
    refine w_iload_n dX12_isInOrder_120 rfl ?_
    obtain ⟨g2, k⟩ := k
    obtain ⟨g3, k⟩ := k
    refine w_iaload dX12_isInOrder_121 g2 g3 ?_
    refine w_if_eq (pc' := 260) dX12_isInOrder_122 rfl rfl ⟨fun c => ?_, fun c => ?_⟩
    · replace k := k.1 c
      refine w_iinc (lo' := [some (.ref v0), some (.int v1), some (.int v2), some (.int (v3 + (1 : Int32))), some (.int v4), u5, u6, u7]) dX12_isInOrder_260 rfl i1_1 rfl ?_
      refine w_goto (pc' := 81) dX12_isInOrder_263 rfl rfl ?_
      exact k
    · replace k := k.2 c
      refine w_iload_n dX12_isInOrder_125 rfl ?_
      refine w_iload dX12_isInOrder_126 rfl ?_
      refine w_ishr dX12_isInOrder_128 ?_
      refine w_iconst dX12_isInOrder_129 i1_1 ?_
      refine w_iand dX12_isInOrder_130 ?_
      refine w_if_ne (pc' := 254) dX12_isInOrder_131 rfl rfl ⟨fun c => ?_, fun c => ?_⟩
      · replace k := k.1 c
        refine w_iinc (lo' := [some (.ref v0), some (.int v1), some (.int v2), some (.int v3), some (.int (v4 + (1 : Int32))), u5, u6, u7]) dX12_isInOrder_254 rfl i1_1 rfl ?_
        refine w_goto (pc' := 107) dX12_isInOrder_257 rfl rfl ?_
        exact k
      · replace k := k.2 c
        refine w_aload_n dX12_isInOrder_134 rfl ?_
        refine w_iload_n dX12_isInOrder_135 rfl ?_
        refine w_iload dX12_isInOrder_136 rfl ?_
        obtain ⟨g4, k⟩ := k
        exact w_virt (as1 := [.int v4, .int v3, .ref v0]) (as2 := [.ref v0, .int v3, .int v4]) (rest := []) (lo2 := [some (.ref v0), some (.int v3), some (.int v4), none, none]) dX12_isInOrder_138 c_12_271 rfl rfl rfl (Nat.le_of_ble_eq_true rfl) (Nat.le_of_ble_eq_true rfl) rfl (Nat.le_of_ble_eq_true rfl) rfl rfl g4 g1 k
theorem bX12_isInOrder_141 {d : Nat} {h : HP} {Q : Out → HP → Prop} {v0 : Nat} {v1 : Int32} {v2 : Int32} {v3 : Int32} {v4 : Int32} {u5 : Option Value} {u6 : Option Value} {u7 : Option Value} {s0 : Int32} (k : ((s0 = 0) → WP d mX12_isInOrder 107 [some (.ref v0), some (.int v1), some (.int v2), some (.int v3), some (.int (v4 + (1 : Int32))), u5, u6, u7] [] h Q) ∧ ((¬ (s0 = 0)) → WP d mX12_isInOrder 155 [some (.ref v0), some (.int v1), some (.int v2), some (.int v3), some (.int v4), some (.int (v3 ||| ((1 : Int32) <<< (v4 &&& 31)))), some (.int (0 : Int32)), u7] [] h Q)) : WP d mX12_isInOrder 141 [some (.ref v0), some (.int v1), some (.int v2), some (.int v3), some (.int v4), u5, u6, u7] [.int s0] h Q := by
  refine w_if_eq (pc' := 254) dX12_isInOrder_141 rfl rfl ⟨fun c => ?_, fun c => ?_⟩
  · replace k := k.1 c
    refine w_iinc (lo' := [some (.ref v0), some (.int v1), some (.int v2), some (.int v3), some (.int (v4 + (1 : Int32))), u5, u6, u7]) dX12_isInOrder_254 rfl i1_1 rfl ?_
    refine w_goto (pc' := 107) dX12_isInOrder_257 rfl rfl ?_
    exact k
  · replace k := k.2 c
    refine w_iload_n dX12_isInOrder_144 rfl ?_
    refine w_iconst dX12_isInOrder_145 i1_1 ?_
    refine w_iload dX12_isInOrder_146 rfl ?_
    refine w_ishl dX12_isInOrder_148 ?_
    refine w_ior dX12_isInOrder_149 ?_
    refine w_istore (lo' := [some (.ref v0), some (.int v1), some (.int v2), some (.int v3), some (.int v4), some (.int (v3 ||| ((1 : Int32) <<< (v4 &&& 31)))), u6, u7]) dX12_isInOrder_150 (ltQ rfl) rfl ?_
    refine w_iconst dX12_isInOrder_152 i1_0 ?_
    refine w_istore (lo' := [some (.ref v0), some (.int v1), some (.int v2), some (.int v3), some (.int v4), some (.int (v3 ||| ((1 : Int32) <<< (v4 &&& 31)))), some (.int (0 : Int32)), u7]) dX12_isInOrder_153 (ltQ rfl) rfl ?_
    exact k
theorem bX12_isInOrder_155 {d : Nat} {h : HP} {Q : Out → HP → Prop} {v0 : Nat} {v1 : Int32} {v2 : Int32} {v3 : Int32} {v4 : Int32} {v5 : Int32} {v6 : Int32} {u7 : Option Value} (k : (((15 : Int32) ≤ v6) → WP d mX12_isInOrder 107 [some (.ref v0), some (.int v1), some (.int v2), some (.int v3), some (.int (v4 + (1 : Int32))), some (.int v5), some (.int v6), u7] [] h Q) ∧ ((¬ ((15 : Int32) ≤ v6)) → ((¬ v6 = (14 : Int32)) → (hK h v0 = 12) ∧ ((hK h (hR h 1244 v0) = 20) ∧ ((inA h (hR h 1244 v0) v6 = true) ∧ (WP d mX12_isInOrder 180 [some (.ref v0), some (.int v1), some (.int v2), some (.int v3), some (.int v4), some (.int v5), some (.int v6), u7] [.int (hAI h (hR h 1244 v0) (v6).toNatClampNeg)] h Q)))) ∧ ((¬ (¬ v6 = (14 : Int32))) → WP d mX12_isInOrder 180 [some (.ref v0), some (.int v1), some (.int v2), some (.int v3), some (.int v4), some (.int v5), some (.int v6), u7] [.int (0 : Int32)] h Q))) : WP d mX12_isInOrder 155 [some (.ref v0), some (.int v1), some (.int v2), some (.int v3), some (.int v4), some (.int v5), some (.int v6), u7] [] h Q := by
  refine w_iload dX12_isInOrder_155 rfl ?_
  refine w_bipush dX12_isInOrder_157 i2_15 ?_
  refine w_ic_ge (pc' := 254) dX12_isInOrder_159 rfl rfl ⟨fun c => ?_, fun c => ?_⟩
  · replace k := k.1 c
    refine w_iinc (lo' := [some (.ref v0), some (.int v1), some (.int v2), some (.int v3), some (.int (v4 + (1 : Int32))), some (.int v5), some (.int v6), u7]) dX12_isInOrder_254 rfl i1_1 rfl ?_
    refine w_goto (pc' := 107) dX12_isInOrder_257 rfl rfl ?_
    exact k
  · replace k := k.2 c
    refine w_iload dX12_isInOrder_162 rfl ?_
    refine w_bipush dX12_isInOrder_164 i2_14 ?_
    refine w_ic_ne (pc' := 173) dX12_isInOrder_166 rfl rfl ⟨fun c => ?_, fun c => ?_⟩
    · replace k := k.1 c
      refine w_aload_n dX12_isInOrder_173 rfl ?_
      obtain ⟨g1, k⟩ := k
      refine w_getR dX12_isInOrder_174 f_12_132 t_12_44 g1 ?_
      refine w_iload dX12_isInOrder_177 rfl ?_
      obtain ⟨g2, k⟩ := k
      obtain ⟨g3, k⟩ := k
      refine w_iaload dX12_isInOrder_179 g2 g3 ?_
      exact k
    · replace k := k.2 c
      refine w_iconst dX12_isInOrder_169 i1_0 ?_
      refine w_goto (pc' := 180) dX12_isInOrder_170 rfl rfl ?_
      exact k
theorem bX12_isInOrder_180 {d : Nat} {h : HP} {Q : Out → HP → Prop} {v0 : Nat} {v1 : Int32} {v2 : Int32} {v3 : Int32} {v4 : Int32} {v5 : Int32} {v6 : Int32} {u7 : Option Value} {s0 : Int32} (k : (hK h v0 = 12) ∧ ((hK h (hR h 1248 v0) = 20) ∧ ((inA h (hR h 1248 v0) v3 = true) ∧ (((¬ (((hAI h (hR h 1248 v0) (v3).toNatClampNeg) >>> (v6 &&& 31)) &&& (1 : Int32)) = (1 : Int32)) → WP d mX12_isInOrder 155 [some (.ref v0), some (.int v1), some (.int v2), some (.int v3), some (.int v4), some (.int v5), some (.int (v6 + (1 : Int32))), some (.int s0)] [] h Q) ∧ ((¬ (¬ (((hAI h (hR h 1248 v0) (v3).toNatClampNeg) >>> (v6 &&& 31)) &&& (1 : Int32)) = (1 : Int32))) → (hK h (hR h 1241 v0) = 21) ∧ ((inA h (hR h 1241 v0) v4 = true) ∧ (((¬ (hAI h (hR h 1241 v0) (v4).toNatClampNeg) = 0) → (inA h (hR h 1248 v0) v5 = true) ∧ ((((hAI h (hR h 1241 v0) (v4).toNatClampNeg) = 0) → WP d mX12_isInOrder 155 [some (.ref v0), some (.int v1), some (.int v2), some (.int v3), some (.int v4), some (.int v5), some (.int (v6 + (1 : Int32))), some (.int s0)] [] (sAI h (hR h 1248 v0) (v5).toNatClampNeg ((hAI h (hR h 1248 v0) (v5).toNatClampNeg) ||| ((1 : Int32) <<< (v6 &&& 31)))) Q) ∧ ((¬ ((hAI h (hR h 1241 v0) (v4).toNatClampNeg) = 0)) → WP d mX12_isInOrder 155 [some (.ref v0), some (.int v1), some (.int v2), some (.int v3), some (.int v4), some (.int v5), some (.int (v6 + (1 : Int32))), some (.int s0)] [] (sAI h (hR h 1248 v0) (v5).toNatClampNeg ((hAI h (hR h 1248 v0) (v5).toNatClampNeg) ||| ((1 : Int32) <<< (v4 &&& 31)))) Q))) ∧ ((¬ (¬ (hAI h (hR h 1241 v0) (v4).toNatClampNeg) = 0)) → (hK h (hR h 1244 v0) = 20) ∧ ((inA h (hR h 1244 v0) v4 = true) ∧ (((¬ (hAI h (hR h 1244 v0) (v4).toNatClampNeg) = s0) → WP d mX12_isInOrder 155 [some (.ref v0), some (.int v1), some (.int v2), some (.int v3), some (.int v4), some (.int v5), some (.int (v6 + (1 : Int32))), some (.int s0)] [] h Q) ∧ ((¬ (¬ (hAI h (hR h 1244 v0) (v4).toNatClampNeg) = s0)) → (inA h (hR h 1248 v0) v5 = true) ∧ ((((hAI h (hR h 1241 v0) (v4).toNatClampNeg) = 0) → WP d mX12_isInOrder 155 [some (.ref v0), some (.int v1), some (.int v2), some (.int v3), some (.int v4), some (.int v5), some (.int (v6 + (1 : Int32))), some (.int s0)] [] (sAI h (hR h 1248 v0) (v5).toNatClampNeg ((hAI h (hR h 1248 v0) (v5).toNatClampNeg) ||| ((1 : Int32) <<< (v6 &&& 31)))) Q) ∧ ((¬ ((hAI h (hR h 1241 v0) (v4).toNatClampNeg) = 0)) → WP d mX12_isInOrder 155 [some (.ref v0), some (.int v1), some (.int v2), some (.int v3), some (.int v4), some (.int v5), some (.int (v6 + (1 : Int32))), some (.int s0)] [] (sAI h (hR h 1248 v0) (v5).toNatClampNeg ((hAI h (hR h 1248 v0) (v5).toNatClampNeg) ||| ((1 : Int32) <<< (v4 &&& 31)))) Q))))))))))))) : WP d mX12_isInOrder 180 [some (.ref v0), some (.int v1), some (.int v2), some (.int v3), some (.int v4), some (.int v5), some (.int v6), u7] [.int s0] h Q := by
  refine w_istore (lo' := [some (.ref v0), some (.int v1), some (.int v2), some (.int v3), some (.int v4), some (.int v5), some (.int v6), some (.int s0)]) dX12_isInOrder_180 (ltQ rfl) rfl ?_
  refine w_aload_n dX12_isInOrder_182 rfl ?_
  obtain ⟨g1, k⟩ := k
  refine w_getR dX12_isInOrder_183 f_12_141 t_12_48 g1 ?_
  refine w_iload_n dX12_isInOrder_186 rfl ?_
  obtain ⟨g2, k⟩ := k
  obtain ⟨g3, k⟩ := k
  refine w_iaload dX12_isInOrder_187 g2 g3 ?_
  refine w_iload dX12_isInOrder_188 rfl ?_
  refine w_ishr dX12_isInOrder_190 ?_
  refine w_iconst dX12_isInOrder_191 i1_1 ?_
  refine w_iand dX12_isInOrder_192 ?_
  refine w_iconst dX12_isInOrder_193 i1_1 ?_
  refine w_ic_ne (pc' := 248) dX12_isInOrder_194 rfl rfl ⟨fun c => ?_, fun c => ?_⟩
  · replace k := k.1 c
    refine w_iinc (lo' := [some (.ref v0), some (.int v1), some (.int v2), some (.int v3), some (.int v4), some (.int v5), some (.int (v6 + (1 : Int32))), some (.int s0)]) dX12_isInOrder_248 rfl i1_1 rfl ?_
    refine w_goto (pc' := 155) dX12_isInOrder_251 rfl rfl ?_
    exact k
  · replace k := k.2 c
    refine w_aload_n dX12_isInOrder_197 rfl ?_
    refine w_getR dX12_isInOrder_198 f_12_123 t_12_41 g1 ?_
    refine w_iload dX12_isInOrder_201 rfl ?_
    obtain ⟨g4, k⟩ := k
    obtain ⟨g5, k⟩ := k
    refine w_baload dX12_isInOrder_203 g4 g5 ?_
    refine w_if_ne (pc' := 219) dX12_isInOrder_204 rfl rfl ⟨fun c => ?_, fun c => ?_⟩
    · replace k := k.1 c
      refine w_aload_n dX12_isInOrder_219 rfl ?_
      refine w_getR dX12_isInOrder_220 f_12_141 t_12_48 g1 ?_
      refine w_iload dX12_isInOrder_223 rfl ?_
      refine w_dup2 dX12_isInOrder_225 rfl rfl ?_
      obtain ⟨g6, k⟩ := k
      refine w_iaload dX12_isInOrder_226 g2 g6 ?_
      refine w_iconst dX12_isInOrder_227 i1_1 ?_
      refine w_aload_n dX12_isInOrder_228 rfl ?_
      refine w_getR dX12_isInOrder_229 f_12_123 t_12_41 g1 ?_
      refine w_iload dX12_isInOrder_232 rfl ?_
      refine w_baload dX12_isInOrder_234 g4 g5 ?_
      refine w_if_eq (pc' := 243) dX12_isInOrder_235 rfl rfl ⟨fun c => ?_, fun c => ?_⟩
      · replace k := k.1 c
        refine w_iload dX12_isInOrder_243 rfl ?_
        refine w_ishl dX12_isInOrder_245 ?_
        refine w_ior dX12_isInOrder_246 ?_
        refine w_iastore dX12_isInOrder_247 g2 g6 ?_
        refine w_iinc (lo' := [some (.ref v0), some (.int v1), some (.int v2), some (.int v3), some (.int v4), some (.int v5), some (.int (v6 + (1 : Int32))), some (.int s0)]) dX12_isInOrder_248 rfl i1_1 rfl ?_
        refine w_goto (pc' := 155) dX12_isInOrder_251 rfl rfl ?_
        exact k
      · replace k := k.2 c
        refine w_iload dX12_isInOrder_238 rfl ?_
        refine w_goto (pc' := 245) dX12_isInOrder_240 rfl rfl ?_
        refine w_ishl dX12_isInOrder_245 ?_
        refine w_ior dX12_isInOrder_246 ?_
        refine w_iastore dX12_isInOrder_247 g2 g6 ?_
        refine w_iinc (lo' := [some (.ref v0), some (.int v1), some (.int v2), some (.int v3), some (.int v4), some (.int v5), some (.int (v6 + (1 : Int32))), some (.int s0)]) dX12_isInOrder_248 rfl i1_1 rfl ?_
        refine w_goto (pc' := 155) dX12_isInOrder_251 rfl rfl ?_
        exact k
    · replace k := k.2 c
      refine w_aload_n dX12_isInOrder_207 rfl ?_
      refine w_getR dX12_isInOrder_208 f_12_132 t_12_44 g1 ?_
      refine w_iload dX12_isInOrder_211 rfl ?_
      obtain ⟨g7, k⟩ := k
      obtain ⟨g8, k⟩ := k
      refine w_iaload dX12_isInOrder_213 g7 g8 ?_
      refine w_iload dX12_isInOrder_214 rfl ?_
      refine w_ic_ne (pc' := 248) dX12_isInOrder_216 rfl rfl ⟨fun c => ?_, fun c => ?_⟩
      · replace k := k.1 c
        refine w_iinc (lo' := [some (.ref v0), some (.int v1), some (.int v2), some (.int v3), some (.int v4), some (.int v5), some (.int (v6 + (1 : Int32))), some (.int s0)]) dX12_isInOrder_248 rfl i1_1 rfl ?_
        refine w_goto (pc' := 155) dX12_isInOrder_251 rfl rfl ?_
        exact k
      · replace k := k.2 c
        refine w_aload_n dX12_isInOrder_219 rfl ?_
        refine w_getR dX12_isInOrder_220 f_12_141 t_12_48 g1 ?_
        refine w_iload dX12_isInOrder_223 rfl ?_
        refine w_dup2 dX12_isInOrder_225 rfl rfl ?_
        obtain ⟨g9, k⟩ := k
        refine w_iaload dX12_isInOrder_226 g2 g9 ?_
        refine w_iconst dX12_isInOrder_227 i1_1 ?_
        refine w_aload_n dX12_isInOrder_228 rfl ?_
        refine w_getR dX12_isInOrder_229 f_12_123 t_12_41 g1 ?_
        refine w_iload dX12_isInOrder_232 rfl ?_
        refine w_baload dX12_isInOrder_234 g4 g5 ?_
        refine w_if_eq (pc' := 243) dX12_isInOrder_235 rfl rfl ⟨fun c => ?_, fun c => ?_⟩
        · replace k := k.1 c
          refine w_iload dX12_isInOrder_243 rfl ?_
          refine w_ishl dX12_isInOrder_245 ?_
          refine w_ior dX12_isInOrder_246 ?_
          refine w_iastore dX12_isInOrder_247 g2 g9 ?_
          refine w_iinc (lo' := [some (.ref v0), some (.int v1), some (.int v2), some (.int v3), some (.int v4), some (.int v5), some (.int (v6 + (1 : Int32))), some (.int s0)]) dX12_isInOrder_248 rfl i1_1 rfl ?_
          refine w_goto (pc' := 155) dX12_isInOrder_251 rfl rfl ?_
          exact k
        · replace k := k.2 c
          refine w_iload dX12_isInOrder_238 rfl ?_
          refine w_goto (pc' := 245) dX12_isInOrder_240 rfl rfl ?_
          refine w_ishl dX12_isInOrder_245 ?_
          refine w_ior dX12_isInOrder_246 ?_
          refine w_iastore dX12_isInOrder_247 g2 g9 ?_
          refine w_iinc (lo' := [some (.ref v0), some (.int v1), some (.int v2), some (.int v3), some (.int v4), some (.int v5), some (.int (v6 + (1 : Int32))), some (.int s0)]) dX12_isInOrder_248 rfl i1_1 rfl ?_
          refine w_goto (pc' := 155) dX12_isInOrder_251 rfl rfl ?_
          exact k
theorem bX12_areAlike_0 {d : Nat} {h : HP} {Q : Out → HP → Prop} {v0 : Nat} {v1 : Int32} {v2 : Int32} {u3 : Option Value} {u4 : Option Value} {u5 : Option Value} {u6 : Option Value} {u7 : Option Value} (k : (hK h v0 = 12) ∧ ((hK h (hR h 1213 v0) = 20) ∧ ((inA h (hR h 1213 v0) v1 = true) ∧ ((inA h (hR h 1213 v0) v2 = true) ∧ ((((hAI h (hR h 1213 v0) (v2).toNatClampNeg) ≤ (hAI h (hR h 1213 v0) (v1).toNatClampNeg)) → WP d mX12_areAlike 37 [some (.ref v0), some (.int v1), some (.int v2), some (.int (hAI h (hR h 1213 v0) (v2).toNatClampNeg)), some (.int (1 : Int32)), some (.int (0 : Int32)), u6, u7] [] h Q) ∧ ((¬ ((hAI h (hR h 1213 v0) (v2).toNatClampNeg) ≤ (hAI h (hR h 1213 v0) (v1).toNatClampNeg))) → WP d mX12_areAlike 37 [some (.ref v0), some (.int v1), some (.int v2), some (.int (hAI h (hR h 1213 v0) (v1).toNatClampNeg)), some (.int (1 : Int32)), some (.int (0 : Int32)), u6, u7] [] h Q)))))) : WP d mX12_areAlike 0 [some (.ref v0), some (.int v1), some (.int v2), u3, u4, u5, u6, u7] [] h Q := by
  refine w_aload_n dX12_areAlike_0 rfl ?_
  obtain ⟨g1, k⟩ := k
  refine w_getR dX12_areAlike_1 f_12_45 t_12_13 g1 ?_
  refine w_iload_n dX12_areAlike_4 rfl ?_
  obtain ⟨g2, k⟩ := k
  obtain ⟨g3, k⟩ := k
  refine w_iaload dX12_areAlike_5 g2 g3 ?_
  refine w_aload_n dX12_areAlike_6 rfl ?_
  refine w_getR dX12_areAlike_7 f_12_45 t_12_13 g1 ?_
  refine w_iload_n dX12_areAlike_10 rfl ?_
  obtain ⟨g4, k⟩ := k
  refine w_iaload dX12_areAlike_11 g2 g4 ?_
  refine w_ic_ge (pc' := 24) dX12_areAlike_12 rfl rfl ⟨fun c => ?_, fun c => ?_⟩
  · replace k := k.1 c
    refine w_aload_n dX12_areAlike_24 rfl ?_
    refine w_getR dX12_areAlike_25 f_12_45 t_12_13 g1 ?_
    refine w_iload_n dX12_areAlike_28 rfl ?_
    refine w_iaload dX12_areAlike_29 g2 g4 ?_
    refine w_istore_n (lo' := [some (.ref v0), some (.int v1), some (.int v2), some (.int (hAI h (hR h 1213 v0) (v2).toNatClampNeg)), u4, u5, u6, u7]) dX12_areAlike_30 (ltQ rfl) rfl ?_
    refine w_iconst dX12_areAlike_31 i1_1 ?_
    refine w_istore (lo' := [some (.ref v0), some (.int v1), some (.int v2), some (.int (hAI h (hR h 1213 v0) (v2).toNatClampNeg)), some (.int (1 : Int32)), u5, u6, u7]) dX12_areAlike_32 (ltQ rfl) rfl ?_
    refine w_iconst dX12_areAlike_34 i1_0 ?_
    refine w_istore (lo' := [some (.ref v0), some (.int v1), some (.int v2), some (.int (hAI h (hR h 1213 v0) (v2).toNatClampNeg)), some (.int (1 : Int32)), some (.int (0 : Int32)), u6, u7]) dX12_areAlike_35 (ltQ rfl) rfl ?_
    exact k
  · replace k := k.2 c
    refine w_aload_n dX12_areAlike_15 rfl ?_
    refine w_getR dX12_areAlike_16 f_12_45 t_12_13 g1 ?_
    refine w_iload_n dX12_areAlike_19 rfl ?_
    refine w_iaload dX12_areAlike_20 g2 g3 ?_
    refine w_goto (pc' := 30) dX12_areAlike_21 rfl rfl ?_
    refine w_istore_n (lo' := [some (.ref v0), some (.int v1), some (.int v2), some (.int (hAI h (hR h 1213 v0) (v1).toNatClampNeg)), u4, u5, u6, u7]) dX12_areAlike_30 (ltQ rfl) rfl ?_
    refine w_iconst dX12_areAlike_31 i1_1 ?_
    refine w_istore (lo' := [some (.ref v0), some (.int v1), some (.int v2), some (.int (hAI h (hR h 1213 v0) (v1).toNatClampNeg)), some (.int (1 : Int32)), u5, u6, u7]) dX12_areAlike_32 (ltQ rfl) rfl ?_
    refine w_iconst dX12_areAlike_34 i1_0 ?_
    refine w_istore (lo' := [some (.ref v0), some (.int v1), some (.int v2), some (.int (hAI h (hR h 1213 v0) (v1).toNatClampNeg)), some (.int (1 : Int32)), some (.int (0 : Int32)), u6, u7]) dX12_areAlike_35 (ltQ rfl) rfl ?_
    exact k
theorem bX12_areAlike_37 {d : Nat} {h : HP} {Q : Out → HP → Prop} {v0 : Nat} {v1 : Int32} {v2 : Int32} {v3 : Int32} {v4 : Int32} {v5 : Int32} {u6 : Option Value} {u7 : Option Value} (k : ((v3 ≤ v5) → WP d mX12_areAlike 150 [some (.ref v0), some (.int v1), some (.int v2), some (.int v3), some (.int v4), some (.int (0 : Int32)), u6, u7] [] h Q) ∧ ((¬ (v3 ≤ v5)) → ((v4 = 0) → WP d mX12_areAlike 37 [some (.ref v0), some (.int v1), some (.int v2), some (.int v3), some (.int (0 : Int32)), some (.int (v5 + (1 : Int32))), some (.int (((30 : Int32) * v1) + v5)), some (.int (((30 : Int32) * v2) + v5))] [] h Q) ∧ ((¬ (v4 = 0)) → (hK h v0 = 12) ∧ ((hK h (hR h 1214 v0) = 20) ∧ ((inA h (hR h 1214 v0) (((30 : Int32) * v1) + v5) = true) ∧ ((inA h (hR h 1214 v0) (((30 : Int32) * v2) + v5) = true) ∧ (((¬ (hAI h (hR h 1214 v0) ((((30 : Int32) * v1) + v5)).toNatClampNeg) = (hAI h (hR h 1214 v0) ((((30 : Int32) * v2) + v5)).toNatClampNeg)) → WP d mX12_areAlike 37 [some (.ref v0), some (.int v1), some (.int v2), some (.int v3), some (.int (0 : Int32)), some (.int (v5 + (1 : Int32))), some (.int (((30 : Int32) * v1) + v5)), some (.int (((30 : Int32) * v2) + v5))] [] h Q) ∧ ((¬ (¬ (hAI h (hR h 1214 v0) ((((30 : Int32) * v1) + v5)).toNatClampNeg) = (hAI h (hR h 1214 v0) ((((30 : Int32) * v2) + v5)).toNatClampNeg))) → (hK h (hR h 1215 v0) = 20) ∧ ((inA h (hR h 1215 v0) (((30 : Int32) * v1) + v5) = true) ∧ ((inA h (hR h 1215 v0) (((30 : Int32) * v2) + v5) = true) ∧ (((¬ (hAI h (hR h 1215 v0) ((((30 : Int32) * v1) + v5)).toNatClampNeg) = (hAI h (hR h 1215 v0) ((((30 : Int32) * v2) + v5)).toNatClampNeg)) → WP d mX12_areAlike 37 [some (.ref v0), some (.int v1), some (.int v2), some (.int v3), some (.int (0 : Int32)), some (.int (v5 + (1 : Int32))), some (.int (((30 : Int32) * v1) + v5)), some (.int (((30 : Int32) * v2) + v5))] [] h Q) ∧ ((¬ (¬ (hAI h (hR h 1215 v0) ((((30 : Int32) * v1) + v5)).toNatClampNeg) = (hAI h (hR h 1215 v0) ((((30 : Int32) * v2) + v5)).toNatClampNeg))) → (hK h (hR h 1216 v0) = 20) ∧ ((inA h (hR h 1216 v0) (((30 : Int32) * v1) + v5) = true) ∧ ((inA h (hR h 1216 v0) (((30 : Int32) * v2) + v5) = true) ∧ (((¬ (hAI h (hR h 1216 v0) ((((30 : Int32) * v1) + v5)).toNatClampNeg) = (hAI h (hR h 1216 v0) ((((30 : Int32) * v2) + v5)).toNatClampNeg)) → WP d mX12_areAlike 37 [some (.ref v0), some (.int v1), some (.int v2), some (.int v3), some (.int (0 : Int32)), some (.int (v5 + (1 : Int32))), some (.int (((30 : Int32) * v1) + v5)), some (.int (((30 : Int32) * v2) + v5))] [] h Q) ∧ ((¬ (¬ (hAI h (hR h 1216 v0) ((((30 : Int32) * v1) + v5)).toNatClampNeg) = (hAI h (hR h 1216 v0) ((((30 : Int32) * v2) + v5)).toNatClampNeg))) → (hK h (hR h 1217 v0) = 20) ∧ ((inA h (hR h 1217 v0) (((30 : Int32) * v1) + v5) = true) ∧ ((inA h (hR h 1217 v0) (((30 : Int32) * v2) + v5) = true) ∧ (((¬ (hAI h (hR h 1217 v0) ((((30 : Int32) * v1) + v5)).toNatClampNeg) = (hAI h (hR h 1217 v0) ((((30 : Int32) * v2) + v5)).toNatClampNeg)) → WP d mX12_areAlike 37 [some (.ref v0), some (.int v1), some (.int v2), some (.int v3), some (.int (0 : Int32)), some (.int (v5 + (1 : Int32))), some (.int (((30 : Int32) * v1) + v5)), some (.int (((30 : Int32) * v2) + v5))] [] h Q) ∧ ((¬ (¬ (hAI h (hR h 1217 v0) ((((30 : Int32) * v1) + v5)).toNatClampNeg) = (hAI h (hR h 1217 v0) ((((30 : Int32) * v2) + v5)).toNatClampNeg))) → WP d mX12_areAlike 37 [some (.ref v0), some (.int v1), some (.int v2), some (.int v3), some (.int (1 : Int32)), some (.int (v5 + (1 : Int32))), some (.int (((30 : Int32) * v1) + v5)), some (.int (((30 : Int32) * v2) + v5))] [] h Q)))))))))))))))))))) : WP d mX12_areAlike 37 [some (.ref v0), some (.int v1), some (.int v2), some (.int v3), some (.int v4), some (.int v5), u6, u7] [] h Q := by
  refine w_iload dX12_areAlike_37 rfl ?_
  refine w_iload_n dX12_areAlike_39 rfl ?_
  refine w_ic_ge (pc' := 147) dX12_areAlike_40 rfl rfl ⟨fun c => ?_, fun c => ?_⟩
  · replace k := k.1 c
    refine w_iconst dX12_areAlike_147 i1_0 ?_
    refine w_istore (lo' := [some (.ref v0), some (.int v1), some (.int v2), some (.int v3), some (.int v4), some (.int (0 : Int32)), u6, u7]) dX12_areAlike_148 (ltQ rfl) rfl ?_
    exact k
  · replace k := k.2 c
    refine w_bipush dX12_areAlike_43 i2_30 ?_
    refine w_iload_n dX12_areAlike_45 rfl ?_
    refine w_imul dX12_areAlike_46 ?_
    refine w_iload dX12_areAlike_47 rfl ?_
    refine w_iadd dX12_areAlike_49 ?_
    refine w_istore (lo' := [some (.ref v0), some (.int v1), some (.int v2), some (.int v3), some (.int v4), some (.int v5), some (.int (((30 : Int32) * v1) + v5)), u7]) dX12_areAlike_50 (ltQ rfl) rfl ?_
    refine w_bipush dX12_areAlike_52 i2_30 ?_
    refine w_iload_n dX12_areAlike_54 rfl ?_
    refine w_imul dX12_areAlike_55 ?_
    refine w_iload dX12_areAlike_56 rfl ?_
    refine w_iadd dX12_areAlike_58 ?_
    refine w_istore (lo' := [some (.ref v0), some (.int v1), some (.int v2), some (.int v3), some (.int v4), some (.int v5), some (.int (((30 : Int32) * v1) + v5)), some (.int (((30 : Int32) * v2) + v5))]) dX12_areAlike_59 (ltQ rfl) rfl ?_
    refine w_iload dX12_areAlike_61 rfl ?_
    refine w_if_eq (pc' := 138) dX12_areAlike_63 rfl rfl ⟨fun c => ?_, fun c => ?_⟩
    · replace k := k.1 c
      refine w_iconst dX12_areAlike_138 i1_0 ?_
      refine w_istore (lo' := [some (.ref v0), some (.int v1), some (.int v2), some (.int v3), some (.int (0 : Int32)), some (.int v5), some (.int (((30 : Int32) * v1) + v5)), some (.int (((30 : Int32) * v2) + v5))]) dX12_areAlike_139 (ltQ rfl) rfl ?_
      refine w_iinc (lo' := [some (.ref v0), some (.int v1), some (.int v2), some (.int v3), some (.int (0 : Int32)), some (.int (v5 + (1 : Int32))), some (.int (((30 : Int32) * v1) + v5)), some (.int (((30 : Int32) * v2) + v5))]) dX12_areAlike_141 rfl i1_1 rfl ?_
      refine w_goto (pc' := 37) dX12_areAlike_144 rfl rfl ?_
      exact k
    · replace k := k.2 c
      refine w_aload_n dX12_areAlike_66 rfl ?_
      obtain ⟨g1, k⟩ := k
      refine w_getR dX12_areAlike_67 f_12_48 t_12_14 g1 ?_
      refine w_iload dX12_areAlike_70 rfl ?_
      obtain ⟨g2, k⟩ := k
      obtain ⟨g3, k⟩ := k
      refine w_iaload dX12_areAlike_72 g2 g3 ?_
      refine w_aload_n dX12_areAlike_73 rfl ?_
      refine w_getR dX12_areAlike_74 f_12_48 t_12_14 g1 ?_
      refine w_iload dX12_areAlike_77 rfl ?_
      obtain ⟨g4, k⟩ := k
      refine w_iaload dX12_areAlike_79 g2 g4 ?_
      refine w_ic_ne (pc' := 138) dX12_areAlike_80 rfl rfl ⟨fun c => ?_, fun c => ?_⟩
      · replace k := k.1 c
        refine w_iconst dX12_areAlike_138 i1_0 ?_
        refine w_istore (lo' := [some (.ref v0), some (.int v1), some (.int v2), some (.int v3), some (.int (0 : Int32)), some (.int v5), some (.int (((30 : Int32) * v1) + v5)), some (.int (((30 : Int32) * v2) + v5))]) dX12_areAlike_139 (ltQ rfl) rfl ?_
        refine w_iinc (lo' := [some (.ref v0), some (.int v1), some (.int v2), some (.int v3), some (.int (0 : Int32)), some (.int (v5 + (1 : Int32))), some (.int (((30 : Int32) * v1) + v5)), some (.int (((30 : Int32) * v2) + v5))]) dX12_areAlike_141 rfl i1_1 rfl ?_
        refine w_goto (pc' := 37) dX12_areAlike_144 rfl rfl ?_
        exact k
      · replace k := k.2 c
        refine w_aload_n dX12_areAlike_83 rfl ?_
        refine w_getR dX12_areAlike_84 f_12_51 t_12_15 g1 ?_
        refine w_iload dX12_areAlike_87 rfl ?_
        obtain ⟨g5, k⟩ := k
        obtain ⟨g6, k⟩ := k
        refine w_iaload dX12_areAlike_89 g5 g6 ?_
        refine w_aload_n dX12_areAlike_90 rfl ?_
        refine w_getR dX12_areAlike_91 f_12_51 t_12_15 g1 ?_
        refine w_iload dX12_areAlike_94 rfl ?_
        obtain ⟨g7, k⟩ := k
        refine w_iaload dX12_areAlike_96 g5 g7 ?_
        refine w_ic_ne (pc' := 138) dX12_areAlike_97 rfl rfl ⟨fun c => ?_, fun c => ?_⟩
        · replace k := k.1 c
          refine w_iconst dX12_areAlike_138 i1_0 ?_
          refine w_istore (lo' := [some (.ref v0), some (.int v1), some (.int v2), some (.int v3), some (.int (0 : Int32)), some (.int v5), some (.int (((30 : Int32) * v1) + v5)), some (.int (((30 : Int32) * v2) + v5))]) dX12_areAlike_139 (ltQ rfl) rfl ?_
          refine w_iinc (lo' := [some (.ref v0), some (.int v1), some (.int v2), some (.int v3), some (.int (0 : Int32)), some (.int (v5 + (1 : Int32))), some (.int (((30 : Int32) * v1) + v5)), some (.int (((30 : Int32) * v2) + v5))]) dX12_areAlike_141 rfl i1_1 rfl ?_
          refine w_goto (pc' := 37) dX12_areAlike_144 rfl rfl ?_
          exact k
        · replace k := k.2 c
          refine w_aload_n dX12_areAlike_100 rfl ?_
          refine w_getR dX12_areAlike_101 f_12_54 t_12_16 g1 ?_
          refine w_iload dX12_areAlike_104 rfl ?_
          obtain ⟨g8, k⟩ := k
          obtain ⟨g9, k⟩ := k
          refine w_iaload dX12_areAlike_106 g8 g9 ?_
          refine w_aload_n dX12_areAlike_107 rfl ?_
          refine w_getR dX12_areAlike_108 f_12_54 t_12_16 g1 ?_
          refine w_iload dX12_areAlike_111 rfl ?_
          obtain ⟨g10, k⟩ := k
          refine w_iaload dX12_areAlike_113 g8 g10 ?_
          refine w_ic_ne (pc' := 138) dX12_areAlike_114 rfl rfl ⟨fun c => ?_, fun c => ?_⟩
          · replace k := k.1 c
            refine w_iconst dX12_areAlike_138 i1_0 ?_
            refine w_istore (lo' := [some (.ref v0), some (.int v1), some (.int v2), some (.int v3), some (.int (0 : Int32)), some (.int v5), some (.int (((30 : Int32) * v1) + v5)), some (.int (((30 : Int32) * v2) + v5))]) dX12_areAlike_139 (ltQ rfl) rfl ?_
            refine w_iinc (lo' := [some (.ref v0), some (.int v1), some (.int v2), some (.int v3), some (.int (0 : Int32)), some (.int (v5 + (1 : Int32))), some (.int (((30 : Int32) * v1) + v5)), some (.int (((30 : Int32) * v2) + v5))]) dX12_areAlike_141 rfl i1_1 rfl ?_
            refine w_goto (pc' := 37) dX12_areAlike_144 rfl rfl ?_
            exact k
          · replace k := k.2 c
            refine w_aload_n dX12_areAlike_117 rfl ?_
            refine w_getR dX12_areAlike_118 f_12_57 t_12_17 g1 ?_
            refine w_iload dX12_areAlike_121 rfl ?_
            obtain ⟨g11, k⟩ := k
            obtain ⟨g12, k⟩ := k
            refine w_iaload dX12_areAlike_123 g11 g12 ?_
            refine w_aload_n dX12_areAlike_124 rfl ?_
            refine w_getR dX12_areAlike_125 f_12_57 t_12_17 g1 ?_
            refine w_iload dX12_areAlike_128 rfl ?_
            obtain ⟨g13, k⟩ := k
            refine w_iaload dX12_areAlike_130 g11 g13 ?_
            refine w_ic_ne (pc' := 138) dX12_areAlike_131 rfl rfl ⟨fun c => ?_, fun c => ?_⟩
            · replace k := k.1 c
              refine w_iconst dX12_areAlike_138 i1_0 ?_
              refine w_istore (lo' := [some (.ref v0), some (.int v1), some (.int v2), some (.int v3), some (.int (0 : Int32)), some (.int v5), some (.int (((30 : Int32) * v1) + v5)), some (.int (((30 : Int32) * v2) + v5))]) dX12_areAlike_139 (ltQ rfl) rfl ?_
              refine w_iinc (lo' := [some (.ref v0), some (.int v1), some (.int v2), some (.int v3), some (.int (0 : Int32)), some (.int (v5 + (1 : Int32))), some (.int (((30 : Int32) * v1) + v5)), some (.int (((30 : Int32) * v2) + v5))]) dX12_areAlike_141 rfl i1_1 rfl ?_
              refine w_goto (pc' := 37) dX12_areAlike_144 rfl rfl ?_
              exact k
            · replace k := k.2 c
              refine w_iconst dX12_areAlike_134 i1_1 ?_
              refine w_goto (pc' := 139) dX12_areAlike_135 rfl rfl ?_
              refine w_istore (lo' := [some (.ref v0), some (.int v1), some (.int v2), some (.int v3), some (.int (1 : Int32)), some (.int v5), some (.int (((30 : Int32) * v1) + v5)), some (.int (((30 : Int32) * v2) + v5))]) dX12_areAlike_139 (ltQ rfl) rfl ?_
              refine w_iinc (lo' := [some (.ref v0), some (.int v1), some (.int v2), some (.int v3), some (.int (1 : Int32)), some (.int (v5 + (1 : Int32))), some (.int (((30 : Int32) * v1) + v5)), some (.int (((30 : Int32) * v2) + v5))]) dX12_areAlike_141 rfl i1_1 rfl ?_
              refine w_goto (pc' := 37) dX12_areAlike_144 rfl rfl ?_
              exact k
theorem bX12_areAlike_150 {d : Nat} {h : HP} {Q : Out → HP → Prop} {v0 : Nat} {v1 : Int32} {v2 : Int32} {v3 : Int32} {v4 : Int32} {v5 : Int32} {u6 : Option Value} {u7 : Option Value} (k : (((4 : Int32) ≤ v5) → (isZ v4 = true) ∧ (Q (.inl (some (.int v4))) h)) ∧ ((¬ ((4 : Int32) ≤ v5)) → (hK h v0 = 12) ∧ ((hK h (hR h 1230 v0) = 20) ∧ ((inA h (hR h 1230 v0) (((4 : Int32) * v1) + v5) = true) ∧ ((inA h (hR h 1230 v0) (((4 : Int32) * v2) + v5) = true) ∧ (((v4 = 0) → WP d mX12_areAlike 150 [some (.ref v0), some (.int v1), some (.int v2), some (.int v3), some (.int (0 : Int32)), some (.int (v5 + (1 : Int32))), some (.int (hAI h (hR h 1230 v0) ((((4 : Int32) * v1) + v5)).toNatClampNeg)), some (.int (hAI h (hR h 1230 v0) ((((4 : Int32) * v2) + v5)).toNatClampNeg))] [] h Q) ∧ ((¬ (v4 = 0)) → (((hAI h (hR h 1230 v0) ((((4 : Int32) * v1) + v5)).toNatClampNeg) = (-1 : Int32)) → WP d mX12_areAlike 150 [some (.ref v0), some (.int v1), some (.int v2), some (.int v3), some (.int (1 : Int32)), some (.int (v5 + (1 : Int32))), some (.int (hAI h (hR h 1230 v0) ((((4 : Int32) * v1) + v5)).toNatClampNeg)), some (.int (hAI h (hR h 1230 v0) ((((4 : Int32) * v2) + v5)).toNatClampNeg))] [] h Q) ∧ ((¬ ((hAI h (hR h 1230 v0) ((((4 : Int32) * v1) + v5)).toNatClampNeg) = (-1 : Int32))) → (((hAI h (hR h 1230 v0) ((((4 : Int32) * v2) + v5)).toNatClampNeg) = (-1 : Int32)) → WP d mX12_areAlike 150 [some (.ref v0), some (.int v1), some (.int v2), some (.int v3), some (.int (1 : Int32)), some (.int (v5 + (1 : Int32))), some (.int (hAI h (hR h 1230 v0) ((((4 : Int32) * v1) + v5)).toNatClampNeg)), some (.int (hAI h (hR h 1230 v0) ((((4 : Int32) * v2) + v5)).toNatClampNeg))] [] h Q) ∧ ((¬ ((hAI h (hR h 1230 v0) ((((4 : Int32) * v2) + v5)).toNatClampNeg) = (-1 : Int32))) → ((¬ (hAI h (hR h 1230 v0) ((((4 : Int32) * v1) + v5)).toNatClampNeg) = (hAI h (hR h 1230 v0) ((((4 : Int32) * v2) + v5)).toNatClampNeg)) → WP d mX12_areAlike 150 [some (.ref v0), some (.int v1), some (.int v2), some (.int v3), some (.int (0 : Int32)), some (.int (v5 + (1 : Int32))), some (.int (hAI h (hR h 1230 v0) ((((4 : Int32) * v1) + v5)).toNatClampNeg)), some (.int (hAI h (hR h 1230 v0) ((((4 : Int32) * v2) + v5)).toNatClampNeg))] [] h Q) ∧ ((¬ (¬ (hAI h (hR h 1230 v0) ((((4 : Int32) * v1) + v5)).toNatClampNeg) = (hAI h (hR h 1230 v0) ((((4 : Int32) * v2) + v5)).toNatClampNeg))) → WP d mX12_areAlike 150 [some (.ref v0), some (.int v1), some (.int v2), some (.int v3), some (.int (1 : Int32)), some (.int (v5 + (1 : Int32))), some (.int (hAI h (hR h 1230 v0) ((((4 : Int32) * v1) + v5)).toNatClampNeg)), some (.int (hAI h (hR h 1230 v0) ((((4 : Int32) * v2) + v5)).toNatClampNeg))] [] h Q)))))))))) : WP d mX12_areAlike 150 [some (.ref v0), some (.int v1), some (.int v2), some (.int v3), some (.int v4), some (.int v5), u6, u7] [] h Q := by
  refine w_iload dX12_areAlike_150 rfl ?_
  refine w_iconst dX12_areAlike_152 i1_4 ?_
  refine w_ic_ge (pc' := 219) dX12_areAlike_153 rfl rfl ⟨fun c => ?_, fun c => ?_⟩
  · replace k := k.1 c
    refine w_iload dX12_areAlike_219 rfl ?_
    obtain ⟨g1, k⟩ := k
    exact w_ireturn dX12_areAlike_221 g1 k
  · replace k := k.2 c
    refine w_aload_n dX12_areAlike_156 rfl ?_
    obtain ⟨g2, k⟩ := k
    refine w_getR dX12_areAlike_157 f_12_96 t_12_30 g2 ?_
    refine w_iconst dX12_areAlike_160 i1_4 ?_
    refine w_iload_n dX12_areAlike_161 rfl ?_
    refine w_imul dX12_areAlike_162 ?_
    refine w_iload dX12_areAlike_163 rfl ?_
    refine w_iadd dX12_areAlike_165 ?_
    obtain ⟨g3, k⟩ := k
    obtain ⟨g4, k⟩ := k
    refine w_iaload dX12_areAlike_166 g3 g4 ?_
    refine w_istore (lo' := [some (.ref v0), some (.int v1), some (.int v2), some (.int v3), some (.int v4), some (.int v5), some (.int (hAI h (hR h 1230 v0) ((((4 : Int32) * v1) + v5)).toNatClampNeg)), u7]) dX12_areAlike_167 (ltQ rfl) rfl ?_
    refine w_aload_n dX12_areAlike_169 rfl ?_
    refine w_getR dX12_areAlike_170 f_12_96 t_12_30 g2 ?_
    refine w_iconst dX12_areAlike_173 i1_4 ?_
    refine w_iload_n dX12_areAlike_174 rfl ?_
    refine w_imul dX12_areAlike_175 ?_
    refine w_iload dX12_areAlike_176 rfl ?_
    refine w_iadd dX12_areAlike_178 ?_
    obtain ⟨g5, k⟩ := k
    refine w_iaload dX12_areAlike_179 g3 g5 ?_
    refine w_istore (lo' := [some (.ref v0), some (.int v1), some (.int v2), some (.int v3), some (.int v4), some (.int v5), some (.int (hAI h (hR h 1230 v0) ((((4 : Int32) * v1) + v5)).toNatClampNeg)), some (.int (hAI h (hR h 1230 v0) ((((4 : Int32) * v2) + v5)).toNatClampNeg))]) dX12_areAlike_180 (ltQ rfl) rfl ?_
    refine w_iload dX12_areAlike_182 rfl ?_
    refine w_if_eq (pc' := 210) dX12_areAlike_184 rfl rfl ⟨fun c => ?_, fun c => ?_⟩
    · replace k := k.1 c
      refine w_iconst dX12_areAlike_210 i1_0 ?_
      refine w_istore (lo' := [some (.ref v0), some (.int v1), some (.int v2), some (.int v3), some (.int (0 : Int32)), some (.int v5), some (.int (hAI h (hR h 1230 v0) ((((4 : Int32) * v1) + v5)).toNatClampNeg)), some (.int (hAI h (hR h 1230 v0) ((((4 : Int32) * v2) + v5)).toNatClampNeg))]) dX12_areAlike_211 (ltQ rfl) rfl ?_
      refine w_iinc (lo' := [some (.ref v0), some (.int v1), some (.int v2), some (.int v3), some (.int (0 : Int32)), some (.int (v5 + (1 : Int32))), some (.int (hAI h (hR h 1230 v0) ((((4 : Int32) * v1) + v5)).toNatClampNeg)), some (.int (hAI h (hR h 1230 v0) ((((4 : Int32) * v2) + v5)).toNatClampNeg))]) dX12_areAlike_213 rfl i1_1 rfl ?_
      refine w_goto (pc' := 150) dX12_areAlike_216 rfl rfl ?_
      exact k
    · replace k := k.2 c
      refine w_iload dX12_areAlike_187 rfl ?_
      refine w_iconst dX12_areAlike_189 i1_m1 ?_
      refine w_ic_eq (pc' := 206) dX12_areAlike_190 rfl rfl ⟨fun c => ?_, fun c => ?_⟩
      · replace k := k.1 c
        refine w_iconst dX12_areAlike_206 i1_1 ?_
        refine w_goto (pc' := 211) dX12_areAlike_207 rfl rfl ?_
        refine w_istore (lo' := [some (.ref v0), some (.int v1), some (.int v2), some (.int v3), some (.int (1 : Int32)), some (.int v5), some (.int (hAI h (hR h 1230 v0) ((((4 : Int32) * v1) + v5)).toNatClampNeg)), some (.int (hAI h (hR h 1230 v0) ((((4 : Int32) * v2) + v5)).toNatClampNeg))]) dX12_areAlike_211 (ltQ rfl) rfl ?_
        refine w_iinc (lo' := [some (.ref v0), some (.int v1), some (.int v2), some (.int v3), some (.int (1 : Int32)), some (.int (v5 + (1 : Int32))), some (.int (hAI h (hR h 1230 v0) ((((4 : Int32) * v1) + v5)).toNatClampNeg)), some (.int (hAI h (hR h 1230 v0) ((((4 : Int32) * v2) + v5)).toNatClampNeg))]) dX12_areAlike_213 rfl i1_1 rfl ?_
        refine w_goto (pc' := 150) dX12_areAlike_216 rfl rfl ?_
        exact k
      · replace k := k.2 c
        refine w_iload dX12_areAlike_193 rfl ?_
        refine w_iconst dX12_areAlike_195 i1_m1 ?_
        refine w_ic_eq (pc' := 206) dX12_areAlike_196 rfl rfl ⟨fun c => ?_, fun c => ?_⟩
        · replace k := k.1 c
          refine w_iconst dX12_areAlike_206 i1_1 ?_
          refine w_goto (pc' := 211) dX12_areAlike_207 rfl rfl ?_
          refine w_istore (lo' := [some (.ref v0), some (.int v1), some (.int v2), some (.int v3), some (.int (1 : Int32)), some (.int v5), some (.int (hAI h (hR h 1230 v0) ((((4 : Int32) * v1) + v5)).toNatClampNeg)), some (.int (hAI h (hR h 1230 v0) ((((4 : Int32) * v2) + v5)).toNatClampNeg))]) dX12_areAlike_211 (ltQ rfl) rfl ?_
          refine w_iinc (lo' := [some (.ref v0), some (.int v1), some (.int v2), some (.int v3), some (.int (1 : Int32)), some (.int (v5 + (1 : Int32))), some (.int (hAI h (hR h 1230 v0) ((((4 : Int32) * v1) + v5)).toNatClampNeg)), some (.int (hAI h (hR h 1230 v0) ((((4 : Int32) * v2) + v5)).toNatClampNeg))]) dX12_areAlike_213 rfl i1_1 rfl ?_
          refine w_goto (pc' := 150) dX12_areAlike_216 rfl rfl ?_
          exact k
        · replace k := k.2 c
          refine w_iload dX12_areAlike_199 rfl ?_
          refine w_iload dX12_areAlike_201 rfl ?_
          refine w_ic_ne (pc' := 210) dX12_areAlike_203 rfl rfl ⟨fun c => ?_, fun c => ?_⟩
          · replace k := k.1 c
            refine w_iconst dX12_areAlike_210 i1_0 ?_
            refine w_istore (lo' := [some (.ref v0), some (.int v1), some (.int v2), some (.int v3), some (.int (0 : Int32)), some (.int v5), some (.int (hAI h (hR h 1230 v0) ((((4 : Int32) * v1) + v5)).toNatClampNeg)), some (.int (hAI h (hR h 1230 v0) ((((4 : Int32) * v2) + v5)).toNatClampNeg))]) dX12_areAlike_211 (ltQ rfl) rfl ?_
            refine w_iinc (lo' := [some (.ref v0), some (.int v1), some (.int v2), some (.int v3), some (.int (0 : Int32)), some (.int (v5 + (1 : Int32))), some (.int (hAI h (hR h 1230 v0) ((((4 : Int32) * v1) + v5)).toNatClampNeg)), some (.int (hAI h (hR h 1230 v0) ((((4 : Int32) * v2) + v5)).toNatClampNeg))]) dX12_areAlike_213 rfl i1_1 rfl ?_
            refine w_goto (pc' := 150) dX12_areAlike_216 rfl rfl ?_
            exact k
          · replace k := k.2 c
            refine w_iconst dX12_areAlike_206 i1_1 ?_
            refine w_goto (pc' := 211) dX12_areAlike_207 rfl rfl ?_
            refine w_istore (lo' := [some (.ref v0), some (.int v1), some (.int v2), some (.int v3), some (.int (1 : Int32)), some (.int v5), some (.int (hAI h (hR h 1230 v0) ((((4 : Int32) * v1) + v5)).toNatClampNeg)), some (.int (hAI h (hR h 1230 v0) ((((4 : Int32) * v2) + v5)).toNatClampNeg))]) dX12_areAlike_211 (ltQ rfl) rfl ?_
            refine w_iinc (lo' := [some (.ref v0), some (.int v1), some (.int v2), some (.int v3), some (.int (1 : Int32)), some (.int (v5 + (1 : Int32))), some (.int (hAI h (hR h 1230 v0) ((((4 : Int32) * v1) + v5)).toNatClampNeg)), some (.int (hAI h (hR h 1230 v0) ((((4 : Int32) * v2) + v5)).toNatClampNeg))]) dX12_areAlike_213 rfl i1_1 rfl ?_
            refine w_goto (pc' := 150) dX12_areAlike_216 rfl rfl ?_
            exact k
theorem bX12_isAgreed_0 {d : Nat} {h : HP} {Q : Out → HP → Prop} {v0 : Nat} {u1 : Option Value} {u2 : Option Value} {u3 : Option Value} (k : (hK h v0 = 12) ∧ (WP d mX12_isAgreed 9 [some (.ref v0), some (.int (1 : Int32)), some (.int (0 : Int32)), u3] [] (sI h 1250 v0 (0 : Int32)) Q)) : WP d mX12_isAgreed 0 [some (.ref v0), u1, u2, u3] [] h Q := by
  refine w_aload_n dX12_isAgreed_0 rfl ?_
  refine w_iconst dX12_isAgreed_1 i1_0 ?_
  obtain ⟨g1, k⟩ := k
  refine w_putI dX12_isAgreed_2 f_12_151 t_12_50 (pf_nf n_12_50) g1 ?_
  refine w_iconst dX12_isAgreed_5 i1_1 ?_
  refine w_istore_n (lo' := [some (.ref v0), some (.int (1 : Int32)), u2, u3]) dX12_isAgreed_6 (ltQ rfl) rfl ?_
  refine w_iconst dX12_isAgreed_7 i1_0 ?_
  refine w_istore_n (lo' := [some (.ref v0), some (.int (1 : Int32)), some (.int (0 : Int32)), u3]) dX12_isAgreed_8 (ltQ rfl) rfl ?_
  exact k
theorem bX12_isAgreed_9 {d : Nat} {h : HP} {Q : Out → HP → Prop} {v0 : Nat} {v1 : Int32} {v2 : Int32} {u3 : Option Value} (k : (hK h v0 = 12) ∧ ((((hI h 1200 v0) ≤ v2) → (isZ v1 = true) ∧ (Q (.inl (some (.int v1))) h)) ∧ ((¬ ((hI h 1200 v0) ≤ v2)) → WP d mX12_isAgreed 19 [some (.ref v0), some (.int v1), some (.int v2), some (.int (0 : Int32))] [] h Q))) : WP d mX12_isAgreed 9 [some (.ref v0), some (.int v1), some (.int v2), u3] [] h Q := by
  refine w_iload_n dX12_isAgreed_9 rfl ?_
  refine w_aload_n dX12_isAgreed_10 rfl ?_
  obtain ⟨g1, k⟩ := k
  refine w_getI dX12_isAgreed_11 f_12_7 t_12_0 g1 ?_
  refine w_ic_ge (pc' := 55) dX12_isAgreed_14 rfl rfl ⟨fun c => ?_, fun c => ?_⟩
  · replace k := k.1 c
    refine w_iload_n dX12_isAgreed_55 rfl ?_
    obtain ⟨g2, k⟩ := k
    exact w_ireturn dX12_isAgreed_56 g2 k
  · replace k := k.2 c
    refine w_iconst dX12_isAgreed_17 i1_0 ?_
    refine w_istore_n (lo' := [some (.ref v0), some (.int v1), some (.int v2), some (.int (0 : Int32))]) dX12_isAgreed_18 (ltQ rfl) rfl ?_
    exact k
theorem bX12_isAgreed_19 {d : Nat} {h : HP} {Q : Out → HP → Prop} {v0 : Nat} {v1 : Int32} {v2 : Int32} {v3 : Int32} (k : ((v2 ≤ v3) → WP (d + 1) mX12_isAgreed 9 [some (.ref v0), some (.int v1), some (.int (v2 + (1 : Int32))), some (.int v3)] [] h Q) ∧ ((¬ (v2 ≤ v3)) → ((v1 = 0) → WP (d + 1) mX12_isAgreed 19 [some (.ref v0), some (.int (0 : Int32)), some (.int v2), some (.int (v3 + (1 : Int32)))] [] h Q) ∧ ((¬ (v1 = 0)) → (1 < v0) ∧ ((hK h v0 = 12) ∧ (WP d mX12_areAlike 0 [some (.ref v0), some (.int v2), some (.int v3), none, none, none, none, none] [] h (KK d mX12_isAgreed mX12_areAlike 31 [some (.ref v0), some (.int v1), some (.int v2), some (.int v3)] [] Q)))))) : WP (d + 1) mX12_isAgreed 19 [some (.ref v0), some (.int v1), some (.int v2), some (.int v3)] [] h Q := by
  refine w_iload_n dX12_isAgreed_19 rfl ?_
  refine w_iload_n dX12_isAgreed_20 rfl ?_
  refine w_ic_ge (pc' := 49) dX12_isAgreed_21 rfl rfl ⟨fun c => ?_, fun c => ?_⟩
  · replace k := k.1 c
    refine w_iinc (lo' := [some (.ref v0), some (.int v1), some (.int (v2 + (1 : Int32))), some (.int v3)]) dX12_isAgreed_49 rfl i1_1 rfl ?_
    refine w_goto (pc' := 9) dX12_isAgreed_52 rfl rfl ?_
    exact k
  · replace k := k.2 c
    refine w_iload_n dX12_isAgreed_24 rfl ?_
    refine w_if_eq (pc' := 41) dX12_isAgreed_25 rfl rfl ⟨fun c => ?_, fun c => ?_⟩
    · replace k := k.1 c
      refine w_iconst dX12_isAgreed_41 i1_0 ?_
      refine w_istore_n (lo' := [some (.ref v0), some (.int (0 : Int32)), some (.int v2), some (.int v3)]) dX12_isAgreed_42 (ltQ rfl) rfl ?_
      refine w_iinc (lo' := [some (.ref v0), some (.int (0 : Int32)), some (.int v2), some (.int (v3 + (1 : Int32)))]) dX12_isAgreed_43 rfl i1_1 rfl ?_
      refine w_goto (pc' := 19) dX12_isAgreed_46 rfl rfl ?_
      exact k
    · replace k := k.2 c
      refine w_aload_n dX12_isAgreed_28 rfl ?_
      refine w_iload_n dX12_isAgreed_29 rfl ?_
      refine w_iload_n dX12_isAgreed_30 rfl ?_
      obtain ⟨g1, k⟩ := k
      obtain ⟨g2, k⟩ := k
      exact w_virt (as1 := [.int v3, .int v2, .ref v0]) (as2 := [.ref v0, .int v2, .int v3]) (rest := []) (lo2 := [some (.ref v0), some (.int v2), some (.int v3), none, none, none, none, none]) dX12_isAgreed_31 c_12_275 rfl rfl rfl (Nat.le_of_ble_eq_true rfl) (Nat.le_of_ble_eq_true rfl) rfl (Nat.le_of_ble_eq_true rfl) rfl rfl g1 g2 k
theorem bX12_isAgreed_34 {d : Nat} {h : HP} {Q : Out → HP → Prop} {v0 : Nat} {v1 : Int32} {v2 : Int32} {v3 : Int32} {s0 : Int32} (k : ((s0 = 0) → WP d mX12_isAgreed 19 [some (.ref v0), some (.int (0 : Int32)), some (.int v2), some (.int (v3 + (1 : Int32)))] [] h Q) ∧ ((¬ (s0 = 0)) → WP d mX12_isAgreed 19 [some (.ref v0), some (.int (1 : Int32)), some (.int v2), some (.int (v3 + (1 : Int32)))] [] h Q)) : WP d mX12_isAgreed 34 [some (.ref v0), some (.int v1), some (.int v2), some (.int v3)] [.int s0] h Q := by
  refine w_if_eq (pc' := 41) dX12_isAgreed_34 rfl rfl ⟨fun c => ?_, fun c => ?_⟩
  · replace k := k.1 c
    refine w_iconst dX12_isAgreed_41 i1_0 ?_
    refine w_istore_n (lo' := [some (.ref v0), some (.int (0 : Int32)), some (.int v2), some (.int v3)]) dX12_isAgreed_42 (ltQ rfl) rfl ?_
    refine w_iinc (lo' := [some (.ref v0), some (.int (0 : Int32)), some (.int v2), some (.int (v3 + (1 : Int32)))]) dX12_isAgreed_43 rfl i1_1 rfl ?_
    refine w_goto (pc' := 19) dX12_isAgreed_46 rfl rfl ?_
    exact k
  · replace k := k.2 c
    refine w_iconst dX12_isAgreed_37 i1_1 ?_
    refine w_goto (pc' := 42) dX12_isAgreed_38 rfl rfl ?_
    refine w_istore_n (lo' := [some (.ref v0), some (.int (1 : Int32)), some (.int v2), some (.int v3)]) dX12_isAgreed_42 (ltQ rfl) rfl ?_
    refine w_iinc (lo' := [some (.ref v0), some (.int (1 : Int32)), some (.int v2), some (.int (v3 + (1 : Int32)))]) dX12_isAgreed_43 rfl i1_1 rfl ?_
    refine w_goto (pc' := 19) dX12_isAgreed_46 rfl rfl ?_
    exact k
theorem bL_begin_0 {d : Nat} {h : HP} {Q : Out → HP → Prop} {v0 : Nat} {v1 : Int32} {v2 : Nat} {u3 : Option Value} (k : (1 < v0) ∧ ((hK h v0 = 11) ∧ (WP d mX11_begin 0 [some (.ref v0), some (.int v1), none] [] h (KK d mL_begin mX11_begin 4 [some (.ref v0), some (.int v1), some (.ref v2), u3] [.int (0 : Int32), .ref v2] Q)))) : WP (d + 1) mL_begin 0 [some (.ref v0), some (.int v1), some (.ref v2), u3] [] h Q := by
  refine w_aload_n dL_begin_0 rfl ?_
  refine w_iconst dL_begin_1 i1_0 ?_
  refine w_aload_n dL_begin_2 rfl ?_
  refine w_iload_n dL_begin_3 rfl ?_
  obtain ⟨g1, k⟩ := k
  obtain ⟨g2, k⟩ := k
  exact w_virt (as1 := [.int v1, .ref v0]) (as2 := [.ref v0, .int v1]) (rest := [.int (0 : Int32), .ref v2]) (lo2 := [some (.ref v0), some (.int v1), none]) dL_begin_4 c_13_7 rfl rfl rfl (Nat.le_of_ble_eq_true rfl) (Nat.le_of_ble_eq_true rfl) rfl (Nat.le_of_ble_eq_true rfl) rfl rfl g1 g2 k
theorem bL_begin_7 {d : Nat} {h : HP} {Q : Out → HP → Prop} {v0 : Nat} {v1 : Int32} {v2 : Nat} {u3 : Option Value} {s0 : Int32} {s1 : Int32} {s2 : Nat} (k : (hK h s2 = 23) ∧ ((inA h s2 s1 = true) ∧ (Q (.inl (some (.int (0 : Int32)))) (sAL h s2 (s1).toNatClampNeg (Int32.toInt64 s0))))) : WP d mL_begin 7 [some (.ref v0), some (.int v1), some (.ref v2), u3] [.int s0, .int s1, .ref s2] h Q := by
  refine w_i2l dL_begin_7 ?_
  obtain ⟨g1, k⟩ := k
  obtain ⟨g2, k⟩ := k
  refine w_lastore dL_begin_8 g1 g2 ?_
  refine w_goto (pc' := 15) dL_begin_9 rfl rfl ?_
  refine w_iconst dL_begin_15 i1_0 ?_
  exact w_ireturn dL_begin_16 rfl k
theorem bL_begin_13 {d : Nat} {h : HP} {Q : Out → HP → Prop} {v0 : Nat} {v1 : Int32} {v2 : Nat} {u3 : Option Value} (k : Q (.inl (some (.int (1 : Int32)))) h) : WP d mL_begin 13 [some (.ref v0), some (.int v1), some (.ref v2), u3] [] h Q := by
  refine w_iconst dL_begin_13 i1_1 ?_
  exact w_ireturn dL_begin_14 rfl k
theorem bL_toggle_0 {d : Nat} {h : HP} {Q : Out → HP → Prop} {v0 : Nat} {v1 : Int32} {v2 : Nat} {u3 : Option Value} (k : (1 < v0) ∧ ((hK h v0 = 11) ∧ (WP d mX11_toggle 0 [some (.ref v0), some (.int v1), none] [] h (KK d mL_toggle mX11_toggle 4 [some (.ref v0), some (.int v1), some (.ref v2), u3] [.int (0 : Int32), .ref v2] Q)))) : WP (d + 1) mL_toggle 0 [some (.ref v0), some (.int v1), some (.ref v2), u3] [] h Q := by
  refine w_aload_n dL_toggle_0 rfl ?_
  refine w_iconst dL_toggle_1 i1_0 ?_
  refine w_aload_n dL_toggle_2 rfl ?_
  refine w_iload_n dL_toggle_3 rfl ?_
  obtain ⟨g1, k⟩ := k
  obtain ⟨g2, k⟩ := k
  exact w_virt (as1 := [.int v1, .ref v0]) (as2 := [.ref v0, .int v1]) (rest := [.int (0 : Int32), .ref v2]) (lo2 := [some (.ref v0), some (.int v1), none]) dL_toggle_4 c_13_15 rfl rfl rfl (Nat.le_of_ble_eq_true rfl) (Nat.le_of_ble_eq_true rfl) rfl (Nat.le_of_ble_eq_true rfl) rfl rfl g1 g2 k
theorem bL_toggle_7 {d : Nat} {h : HP} {Q : Out → HP → Prop} {v0 : Nat} {v1 : Int32} {v2 : Nat} {u3 : Option Value} {s0 : Int32} {s1 : Int32} {s2 : Nat} (k : ((s0 = 0) → (hK h s2 = 23) ∧ ((inA h s2 s1 = true) ∧ (Q (.inl (some (.int (0 : Int32)))) (sAL h s2 (s1).toNatClampNeg (0 : Int64))))) ∧ ((¬ (s0 = 0)) → (hK h s2 = 23) ∧ ((inA h s2 s1 = true) ∧ (Q (.inl (some (.int (0 : Int32)))) (sAL h s2 (s1).toNatClampNeg (1 : Int64)))))) : WP d mL_toggle 7 [some (.ref v0), some (.int v1), some (.ref v2), u3] [.int s0, .int s1, .ref s2] h Q := by
  refine w_if_eq (pc' := 14) dL_toggle_7 rfl rfl ⟨fun c => ?_, fun c => ?_⟩
  · replace k := k.1 c
    refine w_lconst0 dL_toggle_14 ?_
    obtain ⟨g1, k⟩ := k
    obtain ⟨g2, k⟩ := k
    refine w_lastore dL_toggle_15 g1 g2 ?_
    refine w_goto (pc' := 22) dL_toggle_16 rfl rfl ?_
    refine w_iconst dL_toggle_22 i1_0 ?_
    exact w_ireturn dL_toggle_23 rfl k
  · replace k := k.2 c
    refine w_lconst1 dL_toggle_10 ?_
    refine w_goto (pc' := 15) dL_toggle_11 rfl rfl ?_
    obtain ⟨g3, k⟩ := k
    obtain ⟨g4, k⟩ := k
    refine w_lastore dL_toggle_15 g3 g4 ?_
    refine w_goto (pc' := 22) dL_toggle_16 rfl rfl ?_
    refine w_iconst dL_toggle_22 i1_0 ?_
    exact w_ireturn dL_toggle_23 rfl k
theorem bL_toggle_20 {d : Nat} {h : HP} {Q : Out → HP → Prop} {v0 : Nat} {v1 : Int32} {v2 : Nat} {u3 : Option Value} (k : Q (.inl (some (.int (1 : Int32)))) h) : WP d mL_toggle 20 [some (.ref v0), some (.int v1), some (.ref v2), u3] [] h Q := by
  refine w_iconst dL_toggle_20 i1_1 ?_
  exact w_ireturn dL_toggle_21 rfl k
theorem bL_cut_0 {d : Nat} {h : HP} {Q : Out → HP → Prop} {v0 : Nat} {v1 : Int32} {v2 : Int32} {v3 : Nat} {u4 : Option Value} (k : (1 < v0) ∧ ((hK h v0 = 11) ∧ (WP d mX11_cut 0 [some (.ref v0), some (.int v1), some (.int v2)] [] h (KK d mL_cut mX11_cut 5 [some (.ref v0), some (.int v1), some (.int v2), some (.ref v3), u4] [.int (0 : Int32), .ref v3] Q)))) : WP (d + 1) mL_cut 0 [some (.ref v0), some (.int v1), some (.int v2), some (.ref v3), u4] [] h Q := by
  refine w_aload_n dL_cut_0 rfl ?_
  refine w_iconst dL_cut_1 i1_0 ?_
  refine w_aload_n dL_cut_2 rfl ?_
  refine w_iload_n dL_cut_3 rfl ?_
  refine w_iload_n dL_cut_4 rfl ?_
  obtain ⟨g1, k⟩ := k
  obtain ⟨g2, k⟩ := k
  exact w_virt (as1 := [.int v2, .int v1, .ref v0]) (as2 := [.ref v0, .int v1, .int v2]) (rest := [.int (0 : Int32), .ref v3]) (lo2 := [some (.ref v0), some (.int v1), some (.int v2)]) dL_cut_5 c_13_21 rfl rfl rfl (Nat.le_of_ble_eq_true rfl) (Nat.le_of_ble_eq_true rfl) rfl (Nat.le_of_ble_eq_true rfl) rfl rfl g1 g2 k
theorem bL_cut_8 {d : Nat} {h : HP} {Q : Out → HP → Prop} {v0 : Nat} {v1 : Int32} {v2 : Int32} {v3 : Nat} {u4 : Option Value} {s0 : Int32} {s1 : Int32} {s2 : Nat} (k : ((s0 = 0) → (hK h s2 = 23) ∧ ((inA h s2 s1 = true) ∧ (Q (.inl (some (.int (0 : Int32)))) (sAL h s2 (s1).toNatClampNeg (0 : Int64))))) ∧ ((¬ (s0 = 0)) → (hK h s2 = 23) ∧ ((inA h s2 s1 = true) ∧ (Q (.inl (some (.int (0 : Int32)))) (sAL h s2 (s1).toNatClampNeg (1 : Int64)))))) : WP d mL_cut 8 [some (.ref v0), some (.int v1), some (.int v2), some (.ref v3), u4] [.int s0, .int s1, .ref s2] h Q := by
  refine w_if_eq (pc' := 15) dL_cut_8 rfl rfl ⟨fun c => ?_, fun c => ?_⟩
  · replace k := k.1 c
    refine w_lconst0 dL_cut_15 ?_
    obtain ⟨g1, k⟩ := k
    obtain ⟨g2, k⟩ := k
    refine w_lastore dL_cut_16 g1 g2 ?_
    refine w_goto (pc' := 28) dL_cut_17 rfl rfl ?_
    refine w_iconst dL_cut_28 i1_0 ?_
    exact w_ireturn dL_cut_29 rfl k
  · replace k := k.2 c
    refine w_lconst1 dL_cut_11 ?_
    refine w_goto (pc' := 16) dL_cut_12 rfl rfl ?_
    obtain ⟨g3, k⟩ := k
    obtain ⟨g4, k⟩ := k
    refine w_lastore dL_cut_16 g3 g4 ?_
    refine w_goto (pc' := 28) dL_cut_17 rfl rfl ?_
    refine w_iconst dL_cut_28 i1_0 ?_
    exact w_ireturn dL_cut_29 rfl k
theorem bL_cut_22 {d : Nat} {h : HP} {Q : Out → HP → Prop} {v0 : Nat} {v1 : Int32} {v2 : Int32} {v3 : Nat} {u4 : Option Value} (k : Q (.inl (some (.int (1 : Int32)))) h) : WP d mL_cut 22 [some (.ref v0), some (.int v1), some (.int v2), some (.ref v3), u4] [] h Q := by
  refine w_iconst dL_cut_22 i1_1 ?_
  exact w_ireturn dL_cut_23 rfl k
theorem bL_cut_26 {d : Nat} {h : HP} {Q : Out → HP → Prop} {v0 : Nat} {v1 : Int32} {v2 : Int32} {v3 : Nat} {u4 : Option Value} (k : Q (.inl (some (.int (2 : Int32)))) h) : WP d mL_cut 26 [some (.ref v0), some (.int v1), some (.int v2), some (.ref v3), u4] [] h Q := by
  refine w_iconst dL_cut_26 i1_2 ?_
  exact w_ireturn dL_cut_27 rfl k
theorem bL_rate_0 {d : Nat} {h : HP} {Q : Out → HP → Prop} {v0 : Nat} {v1 : Int32} {v2 : Int32} {v3 : Nat} {u4 : Option Value} (k : (1 < v0) ∧ ((hK h v0 = 11) ∧ (WP d mX11_rate 0 [some (.ref v0), some (.int v1), some (.int v2), none] [] h (KK d mL_rate mX11_rate 5 [some (.ref v0), some (.int v1), some (.int v2), some (.ref v3), u4] [.int (0 : Int32), .ref v3] Q)))) : WP (d + 1) mL_rate 0 [some (.ref v0), some (.int v1), some (.int v2), some (.ref v3), u4] [] h Q := by
  refine w_aload_n dL_rate_0 rfl ?_
  refine w_iconst dL_rate_1 i1_0 ?_
  refine w_aload_n dL_rate_2 rfl ?_
  refine w_iload_n dL_rate_3 rfl ?_
  refine w_iload_n dL_rate_4 rfl ?_
  obtain ⟨g1, k⟩ := k
  obtain ⟨g2, k⟩ := k
  exact w_virt (as1 := [.int v2, .int v1, .ref v0]) (as2 := [.ref v0, .int v1, .int v2]) (rest := [.int (0 : Int32), .ref v3]) (lo2 := [some (.ref v0), some (.int v1), some (.int v2), none]) dL_rate_5 c_13_25 rfl rfl rfl (Nat.le_of_ble_eq_true rfl) (Nat.le_of_ble_eq_true rfl) rfl (Nat.le_of_ble_eq_true rfl) rfl rfl g1 g2 k
theorem bL_rate_8 {d : Nat} {h : HP} {Q : Out → HP → Prop} {v0 : Nat} {v1 : Int32} {v2 : Int32} {v3 : Nat} {u4 : Option Value} {s0 : UInt32} {s1 : Int32} {s2 : Nat} (k : (nn64 (FP.f2d s0) = true) ∧ ((hK h s2 = 24) ∧ ((inA h s2 s1 = true) ∧ (Q (.inl (some (.int (0 : Int32)))) (sAD h s2 (s1).toNatClampNeg (FP.f2d s0)))))) : WP d mL_rate 8 [some (.ref v0), some (.int v1), some (.int v2), some (.ref v3), u4] [.float s0, .int s1, .ref s2] h Q := by
  obtain ⟨g1, k⟩ := k
  refine w_f2d dL_rate_8 g1 ?_
  obtain ⟨g2, k⟩ := k
  obtain ⟨g3, k⟩ := k
  refine w_dastore dL_rate_9 g2 g3 ?_
  refine w_goto (pc' := 21) dL_rate_10 rfl rfl ?_
  refine w_iconst dL_rate_21 i1_0 ?_
  exact w_ireturn dL_rate_22 rfl k
theorem bL_rate_15 {d : Nat} {h : HP} {Q : Out → HP → Prop} {v0 : Nat} {v1 : Int32} {v2 : Int32} {v3 : Nat} {u4 : Option Value} (k : Q (.inl (some (.int (1 : Int32)))) h) : WP d mL_rate 15 [some (.ref v0), some (.int v1), some (.int v2), some (.ref v3), u4] [] h Q := by
  refine w_iconst dL_rate_15 i1_1 ?_
  exact w_ireturn dL_rate_16 rfl k
theorem bL_rate_19 {d : Nat} {h : HP} {Q : Out → HP → Prop} {v0 : Nat} {v1 : Int32} {v2 : Int32} {v3 : Nat} {u4 : Option Value} (k : Q (.inl (some (.int (2 : Int32)))) h) : WP d mL_rate 19 [some (.ref v0), some (.int v1), some (.int v2), some (.ref v3), u4] [] h Q := by
  refine w_iconst dL_rate_19 i1_2 ?_
  exact w_ireturn dL_rate_20 rfl k
theorem bL_spans_0 {d : Nat} {h : HP} {Q : Out → HP → Prop} {v0 : Nat} {v1 : Int32} {v2 : Int32} {u3 : Option Value} (k : (1 < v0) ∧ ((hK h v0 = 11) ∧ (WP d mX11_spans 0 [some (.ref v0), some (.int v1), some (.int v2)] [] h (KK d mL_spans mX11_spans 3 [some (.ref v0), some (.int v1), some (.int v2), u3] [] Q)))) : WP (d + 1) mL_spans 0 [some (.ref v0), some (.int v1), some (.int v2), u3] [] h Q := by
  refine w_aload_n dL_spans_0 rfl ?_
  refine w_iload_n dL_spans_1 rfl ?_
  refine w_iload_n dL_spans_2 rfl ?_
  obtain ⟨g1, k⟩ := k
  obtain ⟨g2, k⟩ := k
  exact w_virt (as1 := [.int v2, .int v1, .ref v0]) (as2 := [.ref v0, .int v1, .int v2]) (rest := []) (lo2 := [some (.ref v0), some (.int v1), some (.int v2)]) dL_spans_3 c_13_29 rfl rfl rfl (Nat.le_of_ble_eq_true rfl) (Nat.le_of_ble_eq_true rfl) rfl (Nat.le_of_ble_eq_true rfl) rfl rfl g1 g2 k
theorem bL_spans_6 {d : Nat} {h : HP} {Q : Out → HP → Prop} {v0 : Nat} {v1 : Int32} {v2 : Int32} {u3 : Option Value} (k : Q (.inl (some (.int (0 : Int32)))) h) : WP d mL_spans 6 [some (.ref v0), some (.int v1), some (.int v2), u3] [] h Q := by
  refine w_goto (pc' := 12) dL_spans_6 rfl rfl ?_
  refine w_iconst dL_spans_12 i1_0 ?_
  exact w_ireturn dL_spans_13 rfl k
theorem bL_spans_10 {d : Nat} {h : HP} {Q : Out → HP → Prop} {v0 : Nat} {v1 : Int32} {v2 : Int32} {u3 : Option Value} (k : Q (.inl (some (.int (1 : Int32)))) h) : WP d mL_spans 10 [some (.ref v0), some (.int v1), some (.int v2), u3] [] h Q := by
  refine w_iconst dL_spans_10 i1_1 ?_
  exact w_ireturn dL_spans_11 rfl k
