/-! ===== segments: what the program does from a place to the next ===== -/
theorem bX12_acks_0 {d : Nat} {h : HP} {Q : Out → HP → Prop} {v0 : Nat} {v1 : Int32} {v2 : Int32} {v3 : Int32} {v4 : Int32} {v5 : UInt32} {u6 : Option Value} (k : (hK h v0 = 12) ∧ ((hK h (hR h 1209 v0) = 20) ∧ ((inA h (hR h 1209 v0) v1 = true) ∧ ((1 < v0) ∧ (WP d mX12_sends 0 [some (.ref v0), some (.int (3 : Int32)), some (.int v1), some (.int v2), some (.int (hAI h (hR h 1209 v0) (v1).toNatClampNeg)), none, none] [] h (KK d mX12_acks mX12_sends 10 [some (.ref v0), some (.int v1), some (.int v2), some (.int v3), some (.int v4), some (.float v5), u6] [] Q)))))) : WP (d + 1) mX12_acks 0 [some (.ref v0), some (.int v1), some (.int v2), some (.int v3), some (.int v4), some (.float v5), u6] [] h Q := by
  refine w_aload_n dX12_acks_0 rfl ?_
  refine w_iconst dX12_acks_1 i1_3 ?_
  refine w_iload_n dX12_acks_2 rfl ?_
  refine w_iload_n dX12_acks_3 rfl ?_
  refine w_aload_n dX12_acks_4 rfl ?_
  obtain ⟨g1, k⟩ := k
  refine w_getR dX12_acks_5 f_12_32 t_12_9 g1 ?_
  refine w_iload_n dX12_acks_8 rfl ?_
  obtain ⟨g2, k⟩ := k
  obtain ⟨g3, k⟩ := k
  refine w_iaload dX12_acks_9 g2 g3 ?_
  obtain ⟨g4, k⟩ := k
  exact w_virt (as1 := [.int (hAI h (hR h 1209 v0) (v1).toNatClampNeg), .int v2, .int v1, .int (3 : Int32), .ref v0]) (as2 := [.ref v0, .int (3 : Int32), .int v1, .int v2, .int (hAI h (hR h 1209 v0) (v1).toNatClampNeg)]) (rest := []) (lo2 := [some (.ref v0), some (.int (3 : Int32)), some (.int v1), some (.int v2), some (.int (hAI h (hR h 1209 v0) (v1).toNatClampNeg)), none, none]) dX12_acks_10 c_12_229 rfl rfl rfl (Nat.le_of_ble_eq_true rfl) (Nat.le_of_ble_eq_true rfl) rfl (Nat.le_of_ble_eq_true rfl) rfl rfl g4 g1 k
theorem bX12_acks_13 {d : Nat} {h : HP} {Q : Out → HP → Prop} {v0 : Nat} {v1 : Int32} {v2 : Int32} {v3 : Int32} {v4 : Int32} {v5 : UInt32} {u6 : Option Value} {s0 : Int32} (k : ((s0 = (-1 : Int32)) → Q (.inl none) h) ∧ ((¬ (s0 = (-1 : Int32))) → (hK h v0 = 12) ∧ ((hK h (hR h 1237 v0) = 20) ∧ ((inA h (hR h 1237 v0) (s0 + (4 : Int32)) = true) ∧ ((hK (sAI h (hR h 1237 v0) ((s0 + (4 : Int32))).toNatClampNeg v4) v0 = 12) ∧ (((v3 = 0) → (hK (sAI h (hR h 1237 v0) ((s0 + (4 : Int32))).toNatClampNeg v4) (hR (sAI h (hR h 1237 v0) ((s0 + (4 : Int32))).toNatClampNeg v4) 1237 v0) = 20) ∧ ((inA (sAI h (hR h 1237 v0) ((s0 + (4 : Int32))).toNatClampNeg v4) (hR (sAI h (hR h 1237 v0) ((s0 + (4 : Int32))).toNatClampNeg v4) 1237 v0) (s0 + (7 : Int32)) = true) ∧ ((hK (sAI (sAI h (hR h 1237 v0) ((s0 + (4 : Int32))).toNatClampNeg v4) (hR (sAI h (hR h 1237 v0) ((s0 + (4 : Int32))).toNatClampNeg v4) 1237 v0) ((s0 + (7 : Int32))).toNatClampNeg (0 : Int32)) v0 = 12) ∧ ((hK (sAI (sAI h (hR h 1237 v0) ((s0 + (4 : Int32))).toNatClampNeg v4) (hR (sAI h (hR h 1237 v0) ((s0 + (4 : Int32))).toNatClampNeg v4) 1237 v0) ((s0 + (7 : Int32))).toNatClampNeg (0 : Int32)) (hR (sAI (sAI h (hR h 1237 v0) ((s0 + (4 : Int32))).toNatClampNeg v4) (hR (sAI h (hR h 1237 v0) ((s0 + (4 : Int32))).toNatClampNeg v4) 1237 v0) ((s0 + (7 : Int32))).toNatClampNeg (0 : Int32)) 1238 v0) = 22) ∧ ((inA (sAI (sAI h (hR h 1237 v0) ((s0 + (4 : Int32))).toNatClampNeg v4) (hR (sAI h (hR h 1237 v0) ((s0 + (4 : Int32))).toNatClampNeg v4) 1237 v0) ((s0 + (7 : Int32))).toNatClampNeg (0 : Int32)) (hR (sAI (sAI h (hR h 1237 v0) ((s0 + (4 : Int32))).toNatClampNeg v4) (hR (sAI h (hR h 1237 v0) ((s0 + (4 : Int32))).toNatClampNeg v4) 1237 v0) ((s0 + (7 : Int32))).toNatClampNeg (0 : Int32)) 1238 v0) (s0 / (24 : Int32)) = true) ∧ (Q (.inl none) (sAF (sAI (sAI h (hR h 1237 v0) ((s0 + (4 : Int32))).toNatClampNeg v4) (hR (sAI h (hR h 1237 v0) ((s0 + (4 : Int32))).toNatClampNeg v4) 1237 v0) ((s0 + (7 : Int32))).toNatClampNeg (0 : Int32)) (hR (sAI (sAI h (hR h 1237 v0) ((s0 + (4 : Int32))).toNatClampNeg v4) (hR (sAI h (hR h 1237 v0) ((s0 + (4 : Int32))).toNatClampNeg v4) 1237 v0) ((s0 + (7 : Int32))).toNatClampNeg (0 : Int32)) 1238 v0) ((s0 / (24 : Int32))).toNatClampNeg v5))))))) ∧ ((¬ (v3 = 0)) → (hK (sAI h (hR h 1237 v0) ((s0 + (4 : Int32))).toNatClampNeg v4) (hR (sAI h (hR h 1237 v0) ((s0 + (4 : Int32))).toNatClampNeg v4) 1237 v0) = 20) ∧ ((inA (sAI h (hR h 1237 v0) ((s0 + (4 : Int32))).toNatClampNeg v4) (hR (sAI h (hR h 1237 v0) ((s0 + (4 : Int32))).toNatClampNeg v4) 1237 v0) (s0 + (7 : Int32)) = true) ∧ ((hK (sAI (sAI h (hR h 1237 v0) ((s0 + (4 : Int32))).toNatClampNeg v4) (hR (sAI h (hR h 1237 v0) ((s0 + (4 : Int32))).toNatClampNeg v4) 1237 v0) ((s0 + (7 : Int32))).toNatClampNeg (1 : Int32)) v0 = 12) ∧ ((hK (sAI (sAI h (hR h 1237 v0) ((s0 + (4 : Int32))).toNatClampNeg v4) (hR (sAI h (hR h 1237 v0) ((s0 + (4 : Int32))).toNatClampNeg v4) 1237 v0) ((s0 + (7 : Int32))).toNatClampNeg (1 : Int32)) (hR (sAI (sAI h (hR h 1237 v0) ((s0 + (4 : Int32))).toNatClampNeg v4) (hR (sAI h (hR h 1237 v0) ((s0 + (4 : Int32))).toNatClampNeg v4) 1237 v0) ((s0 + (7 : Int32))).toNatClampNeg (1 : Int32)) 1238 v0) = 22) ∧ ((inA (sAI (sAI h (hR h 1237 v0) ((s0 + (4 : Int32))).toNatClampNeg v4) (hR (sAI h (hR h 1237 v0) ((s0 + (4 : Int32))).toNatClampNeg v4) 1237 v0) ((s0 + (7 : Int32))).toNatClampNeg (1 : Int32)) (hR (sAI (sAI h (hR h 1237 v0) ((s0 + (4 : Int32))).toNatClampNeg v4) (hR (sAI h (hR h 1237 v0) ((s0 + (4 : Int32))).toNatClampNeg v4) 1237 v0) ((s0 + (7 : Int32))).toNatClampNeg (1 : Int32)) 1238 v0) (s0 / (24 : Int32)) = true) ∧ (Q (.inl none) (sAF (sAI (sAI h (hR h 1237 v0) ((s0 + (4 : Int32))).toNatClampNeg v4) (hR (sAI h (hR h 1237 v0) ((s0 + (4 : Int32))).toNatClampNeg v4) 1237 v0) ((s0 + (7 : Int32))).toNatClampNeg (1 : Int32)) (hR (sAI (sAI h (hR h 1237 v0) ((s0 + (4 : Int32))).toNatClampNeg v4) (hR (sAI h (hR h 1237 v0) ((s0 + (4 : Int32))).toNatClampNeg v4) 1237 v0) ((s0 + (7 : Int32))).toNatClampNeg (1 : Int32)) 1238 v0) ((s0 / (24 : Int32))).toNatClampNeg v5))))))))))))) : WP d mX12_acks 13 [some (.ref v0), some (.int v1), some (.int v2), some (.int v3), some (.int v4), some (.float v5), u6] [.int s0] h Q := by
  refine w_istore (lo' := [some (.ref v0), some (.int v1), some (.int v2), some (.int v3), some (.int v4), some (.float v5), some (.int s0)]) dX12_acks_13 (ltQ rfl) rfl ?_
  refine w_iload dX12_acks_15 rfl ?_
  refine w_iconst dX12_acks_17 i1_m1 ?_
  refine w_ic_eq (pc' := 63) dX12_acks_18 rfl rfl ⟨fun c => ?_, fun c => ?_⟩
  · replace k := k.1 c
    exact w_return dX12_acks_63 rfl k
  · replace k := k.2 c
    refine w_aload_n dX12_acks_21 rfl ?_
    obtain ⟨g1, k⟩ := k
    refine w_getR dX12_acks_22 f_12_117 t_12_37 g1 ?_
    refine w_iload dX12_acks_25 rfl ?_
    refine w_iconst dX12_acks_27 i1_4 ?_
    refine w_iadd dX12_acks_28 ?_
    refine w_iload dX12_acks_29 rfl ?_
    obtain ⟨g2, k⟩ := k
    obtain ⟨g3, k⟩ := k
    refine w_iastore dX12_acks_31 g2 g3 ?_
    refine w_aload_n dX12_acks_32 rfl ?_
    obtain ⟨g4, k⟩ := k
    refine w_getR dX12_acks_33 f_12_117 t_12_37 g4 ?_
    refine w_iload dX12_acks_36 rfl ?_
    refine w_bipush dX12_acks_38 i2_7 ?_
    refine w_iadd dX12_acks_40 ?_
    refine w_iload_n dX12_acks_41 rfl ?_
    refine w_if_eq (pc' := 49) dX12_acks_42 rfl rfl ⟨fun c => ?_, fun c => ?_⟩
    · replace k := k.1 c
      refine w_iconst dX12_acks_49 i1_0 ?_
      obtain ⟨g5, k⟩ := k
      obtain ⟨g6, k⟩ := k
      refine w_iastore dX12_acks_50 g5 g6 ?_
      refine w_aload_n dX12_acks_51 rfl ?_
      obtain ⟨g7, k⟩ := k
      refine w_getR dX12_acks_52 f_12_120 t_12_38 g7 ?_
      refine w_iload dX12_acks_55 rfl ?_
      refine w_bipush dX12_acks_57 i2_24 ?_
      refine w_idiv dX12_acks_59 (by decide) ?_
      refine w_fload dX12_acks_60 rfl ?_
      obtain ⟨g8, k⟩ := k
      obtain ⟨g9, k⟩ := k
      refine w_fastore dX12_acks_62 g8 g9 ?_
      exact w_return dX12_acks_63 rfl k
    · replace k := k.2 c
      refine w_iconst dX12_acks_45 i1_1 ?_
      refine w_goto (pc' := 50) dX12_acks_46 rfl rfl ?_
      obtain ⟨g10, k⟩ := k
      obtain ⟨g11, k⟩ := k
      refine w_iastore dX12_acks_50 g10 g11 ?_
      refine w_aload_n dX12_acks_51 rfl ?_
      obtain ⟨g12, k⟩ := k
      refine w_getR dX12_acks_52 f_12_120 t_12_38 g12 ?_
      refine w_iload dX12_acks_55 rfl ?_
      refine w_bipush dX12_acks_57 i2_24 ?_
      refine w_idiv dX12_acks_59 (by decide) ?_
      refine w_fload dX12_acks_60 rfl ?_
      obtain ⟨g13, k⟩ := k
      obtain ⟨g14, k⟩ := k
      refine w_fastore dX12_acks_62 g13 g14 ?_
      exact w_return dX12_acks_63 rfl k
theorem bX12_appended_0 {d : Nat} {h : HP} {Q : Out → HP → Prop} {v0 : Nat} {v1 : Int32} {v2 : UInt32} {u3 : Option Value} {u4 : Option Value} {u5 : Option Value} {u6 : Option Value} {u7 : Option Value} {u8 : Option Value} {u9 : Option Value} (k : (hK h v0 = 12) ∧ ((hK h (hR h 1249 v0) = 20) ∧ ((inA h (hR h 1249 v0) (1 : Int32) = true) ∧ ((inA h (hR h 1249 v0) (3 : Int32) = true) ∧ ((hK h (hR h 1209 v0) = 20) ∧ ((inA h (hR h 1209 v0) v1 = true) ∧ ((((hAI h (hR h 1209 v0) (v1).toNatClampNeg) ≤ (hAI h (hR h 1249 v0) ((3 : Int32)).toNatClampNeg)) → (1 < v0) ∧ (WP d mX12_follows 0 [some (.ref v0), some (.int v1)] [] h (KK d mX12_appended mX12_follows 34 [some (.ref v0), some (.int v1), some (.float v2), some (.int (hAI h (hR h 1249 v0) ((1 : Int32)).toNatClampNeg)), u4, u5, u6, u7, u8, u9] [] Q))) ∧ ((¬ ((hAI h (hR h 1209 v0) (v1).toNatClampNeg) ≤ (hAI h (hR h 1249 v0) ((3 : Int32)).toNatClampNeg))) → (1 < v0) ∧ (WP d mX12_acks 0 [some (.ref v0), some (.int v1), some (.int (hAI h (hR h 1249 v0) ((1 : Int32)).toNatClampNeg)), some (.int (0 : Int32)), some (.int (0 : Int32)), some (.float v2), none] [] h (KK d mX12_appended mX12_acks 28 [some (.ref v0), some (.int v1), some (.float v2), some (.int (hAI h (hR h 1249 v0) ((1 : Int32)).toNatClampNeg)), u4, u5, u6, u7, u8, u9] [] Q)))))))))) : WP (d + 1) mX12_appended 0 [some (.ref v0), some (.int v1), some (.float v2), u3, u4, u5, u6, u7, u8, u9] [] h Q := by
  refine w_aload_n dX12_appended_0 rfl ?_
  obtain ⟨g1, k⟩ := k
  refine w_getR dX12_appended_1 f_12_144 t_12_49 g1 ?_
  refine w_iconst dX12_appended_4 i1_1 ?_
  obtain ⟨g2, k⟩ := k
  obtain ⟨g3, k⟩ := k
  refine w_iaload dX12_appended_5 g2 g3 ?_
  refine w_istore_n (lo' := [some (.ref v0), some (.int v1), some (.float v2), some (.int (hAI h (hR h 1249 v0) ((1 : Int32)).toNatClampNeg)), u4, u5, u6, u7, u8, u9]) dX12_appended_6 (ltQ rfl) rfl ?_
  refine w_aload_n dX12_appended_7 rfl ?_
  refine w_getR dX12_appended_8 f_12_144 t_12_49 g1 ?_
  refine w_iconst dX12_appended_11 i1_3 ?_
  obtain ⟨g4, k⟩ := k
  refine w_iaload dX12_appended_12 g2 g4 ?_
  refine w_aload_n dX12_appended_13 rfl ?_
  refine w_getR dX12_appended_14 f_12_32 t_12_9 g1 ?_
  refine w_iload_n dX12_appended_17 rfl ?_
  obtain ⟨g5, k⟩ := k
  obtain ⟨g6, k⟩ := k
  refine w_iaload dX12_appended_18 g5 g6 ?_
  refine w_ic_ge (pc' := 32) dX12_appended_19 rfl rfl ⟨fun c => ?_, fun c => ?_⟩
  · replace k := k.1 c
    refine w_aload_n dX12_appended_32 rfl ?_
    refine w_iload_n dX12_appended_33 rfl ?_
    obtain ⟨g7, k⟩ := k
    exact w_virt (as1 := [.int v1, .ref v0]) (as2 := [.ref v0, .int v1]) (rest := []) (lo2 := [some (.ref v0), some (.int v1)]) dX12_appended_34 c_12_184 rfl rfl rfl (Nat.le_of_ble_eq_true rfl) (Nat.le_of_ble_eq_true rfl) rfl (Nat.le_of_ble_eq_true rfl) rfl rfl g7 g1 k
  · replace k := k.2 c
    refine w_aload_n dX12_appended_22 rfl ?_
    refine w_iload_n dX12_appended_23 rfl ?_
    refine w_iload_n dX12_appended_24 rfl ?_
    refine w_iconst dX12_appended_25 i1_0 ?_
    refine w_iconst dX12_appended_26 i1_0 ?_
    refine w_fload_n dX12_appended_27 rfl ?_
    obtain ⟨g8, k⟩ := k
    exact w_virt (as1 := [.float v2, .int (0 : Int32), .int (0 : Int32), .int (hAI h (hR h 1249 v0) ((1 : Int32)).toNatClampNeg), .int v1, .ref v0]) (as2 := [.ref v0, .int v1, .int (hAI h (hR h 1249 v0) ((1 : Int32)).toNatClampNeg), .int (0 : Int32), .int (0 : Int32), .float v2]) (rest := []) (lo2 := [some (.ref v0), some (.int v1), some (.int (hAI h (hR h 1249 v0) ((1 : Int32)).toNatClampNeg)), some (.int (0 : Int32)), some (.int (0 : Int32)), some (.float v2), none]) dX12_appended_28 c_12_245 rfl rfl rfl (Nat.le_of_ble_eq_true rfl) (Nat.le_of_ble_eq_true rfl) rfl (Nat.le_of_ble_eq_true rfl) rfl rfl g8 g1 k
theorem bX12_appended_31 {d : Nat} {h : HP} {Q : Out → HP → Prop} {v0 : Nat} {v1 : Int32} {v2 : UInt32} {v3 : Int32} {u4 : Option Value} {u5 : Option Value} {u6 : Option Value} {u7 : Option Value} {u8 : Option Value} {u9 : Option Value} (k : Q (.inl none) h) : WP d mX12_appended 31 [some (.ref v0), some (.int v1), some (.float v2), some (.int v3), u4, u5, u6, u7, u8, u9] [] h Q := by
  exact w_return dX12_appended_31 rfl k
theorem bX12_appended_37 {d : Nat} {h : HP} {Q : Out → HP → Prop} {v0 : Nat} {v1 : Int32} {v2 : UInt32} {v3 : Int32} {u4 : Option Value} {u5 : Option Value} {u6 : Option Value} {u7 : Option Value} {u8 : Option Value} {u9 : Option Value} (k : (hK h v0 = 12) ∧ ((hK h (hR h 1249 v0) = 20) ∧ ((inA h (hR h 1249 v0) (4 : Int32) = true) ∧ ((hK h (hR h 1212 v0) = 20) ∧ ((inA h (hR h 1212 v0) v1 = true) ∧ ((((hAI h (hR h 1212 v0) (v1).toNatClampNeg) < (hAI h (hR h 1249 v0) ((4 : Int32)).toNatClampNeg)) → (((hAI h (hR h 1212 v0) (v1).toNatClampNeg) ≤ ((hAI h (hR h 1249 v0) ((4 : Int32)).toNatClampNeg) - (1 : Int32))) → (1 < v0) ∧ (WP d mX12_acks 0 [some (.ref v0), some (.int v1), some (.int v3), some (.int (0 : Int32)), some (.int (hAI h (hR h 1212 v0) (v1).toNatClampNeg)), some (.float v2), none] [] h (KK d mX12_appended mX12_acks 103 [some (.ref v0), some (.int v1), some (.float v2), some (.int v3), some (.int (hAI h (hR h 1249 v0) ((4 : Int32)).toNatClampNeg)), u5, u6, u7, u8, u9] [] Q))) ∧ ((¬ ((hAI h (hR h 1212 v0) (v1).toNatClampNeg) ≤ ((hAI h (hR h 1249 v0) ((4 : Int32)).toNatClampNeg) - (1 : Int32)))) → (1 < v0) ∧ (WP d mX12_acks 0 [some (.ref v0), some (.int v1), some (.int v3), some (.int (0 : Int32)), some (.int ((hAI h (hR h 1249 v0) ((4 : Int32)).toNatClampNeg) - (1 : Int32))), some (.float v2), none] [] h (KK d mX12_appended mX12_acks 103 [some (.ref v0), some (.int v1), some (.float v2), some (.int v3), some (.int (hAI h (hR h 1249 v0) ((4 : Int32)).toNatClampNeg)), u5, u6, u7, u8, u9] [] Q)))) ∧ ((¬ ((hAI h (hR h 1212 v0) (v1).toNatClampNeg) < (hAI h (hR h 1249 v0) ((4 : Int32)).toNatClampNeg))) → (1 < v0) ∧ (WP d mX12_termAt 0 [some (.ref v0), some (.int v1), some (.int (hAI h (hR h 1249 v0) ((4 : Int32)).toNatClampNeg))] [] h (KK d mX12_appended mX12_termAt 60 [some (.ref v0), some (.int v1), some (.float v2), some (.int v3), some (.int (hAI h (hR h 1249 v0) ((4 : Int32)).toNatClampNeg)), u5, u6, u7, u8, u9] [] Q))))))))) : WP (d + 1) mX12_appended 37 [some (.ref v0), some (.int v1), some (.float v2), some (.int v3), u4, u5, u6, u7, u8, u9] [] h Q := by
  refine w_aload_n dX12_appended_37 rfl ?_
  obtain ⟨g1, k⟩ := k
  refine w_getR dX12_appended_38 f_12_144 t_12_49 g1 ?_
  refine w_iconst dX12_appended_41 i1_4 ?_
  obtain ⟨g2, k⟩ := k
  obtain ⟨g3, k⟩ := k
  refine w_iaload dX12_appended_42 g2 g3 ?_
  refine w_istore (lo' := [some (.ref v0), some (.int v1), some (.float v2), some (.int v3), some (.int (hAI h (hR h 1249 v0) ((4 : Int32)).toNatClampNeg)), u5, u6, u7, u8, u9]) dX12_appended_43 (ltQ rfl) rfl ?_
  refine w_iload dX12_appended_45 rfl ?_
  refine w_aload_n dX12_appended_47 rfl ?_
  refine w_getR dX12_appended_48 f_12_42 t_12_12 g1 ?_
  refine w_iload_n dX12_appended_51 rfl ?_
  obtain ⟨g4, k⟩ := k
  obtain ⟨g5, k⟩ := k
  refine w_iaload dX12_appended_52 g4 g5 ?_
  refine w_ic_gt (pc' := 72) dX12_appended_53 rfl rfl ⟨fun c => ?_, fun c => ?_⟩
  · replace k := k.1 c
    refine w_aload_n dX12_appended_72 rfl ?_
    refine w_iload_n dX12_appended_73 rfl ?_
    refine w_iload_n dX12_appended_74 rfl ?_
    refine w_iconst dX12_appended_75 i1_0 ?_
    refine w_iload dX12_appended_76 rfl ?_
    refine w_iconst dX12_appended_78 i1_1 ?_
    refine w_isub dX12_appended_79 ?_
    refine w_aload_n dX12_appended_80 rfl ?_
    refine w_getR dX12_appended_81 f_12_42 t_12_12 g1 ?_
    refine w_iload_n dX12_appended_84 rfl ?_
    refine w_iaload dX12_appended_85 g4 g5 ?_
    refine w_ic_ge (pc' := 96) dX12_appended_86 rfl rfl ⟨fun c => ?_, fun c => ?_⟩
    · replace k := k.1 c
      refine w_aload_n dX12_appended_96 rfl ?_
      refine w_getR dX12_appended_97 f_12_42 t_12_12 g1 ?_
      refine w_iload_n dX12_appended_100 rfl ?_
      refine w_iaload dX12_appended_101 g4 g5 ?_
      refine w_fload_n dX12_appended_102 rfl ?_
      obtain ⟨g6, k⟩ := k
      exact w_virt (as1 := [.float v2, .int (hAI h (hR h 1212 v0) (v1).toNatClampNeg), .int (0 : Int32), .int v3, .int v1, .ref v0]) (as2 := [.ref v0, .int v1, .int v3, .int (0 : Int32), .int (hAI h (hR h 1212 v0) (v1).toNatClampNeg), .float v2]) (rest := []) (lo2 := [some (.ref v0), some (.int v1), some (.int v3), some (.int (0 : Int32)), some (.int (hAI h (hR h 1212 v0) (v1).toNatClampNeg)), some (.float v2), none]) dX12_appended_103 c_12_245 rfl rfl rfl (Nat.le_of_ble_eq_true rfl) (Nat.le_of_ble_eq_true rfl) rfl (Nat.le_of_ble_eq_true rfl) rfl rfl g6 g1 k
    · replace k := k.2 c
      refine w_iload dX12_appended_89 rfl ?_
      refine w_iconst dX12_appended_91 i1_1 ?_
      refine w_isub dX12_appended_92 ?_
      refine w_goto (pc' := 102) dX12_appended_93 rfl rfl ?_
      refine w_fload_n dX12_appended_102 rfl ?_
      obtain ⟨g7, k⟩ := k
      exact w_virt (as1 := [.float v2, .int ((hAI h (hR h 1249 v0) ((4 : Int32)).toNatClampNeg) - (1 : Int32)), .int (0 : Int32), .int v3, .int v1, .ref v0]) (as2 := [.ref v0, .int v1, .int v3, .int (0 : Int32), .int ((hAI h (hR h 1249 v0) ((4 : Int32)).toNatClampNeg) - (1 : Int32)), .float v2]) (rest := []) (lo2 := [some (.ref v0), some (.int v1), some (.int v3), some (.int (0 : Int32)), some (.int ((hAI h (hR h 1249 v0) ((4 : Int32)).toNatClampNeg) - (1 : Int32))), some (.float v2), none]) dX12_appended_103 c_12_245 rfl rfl rfl (Nat.le_of_ble_eq_true rfl) (Nat.le_of_ble_eq_true rfl) rfl (Nat.le_of_ble_eq_true rfl) rfl rfl g7 g1 k
  · replace k := k.2 c
    refine w_aload_n dX12_appended_56 rfl ?_
    refine w_iload_n dX12_appended_57 rfl ?_
    refine w_iload dX12_appended_58 rfl ?_
    obtain ⟨g8, k⟩ := k
    exact w_virt (as1 := [.int (hAI h (hR h 1249 v0) ((4 : Int32)).toNatClampNeg), .int v1, .ref v0]) (as2 := [.ref v0, .int v1, .int (hAI h (hR h 1249 v0) ((4 : Int32)).toNatClampNeg)]) (rest := []) (lo2 := [some (.ref v0), some (.int v1), some (.int (hAI h (hR h 1249 v0) ((4 : Int32)).toNatClampNeg))]) dX12_appended_60 c_12_233 rfl rfl rfl (Nat.le_of_ble_eq_true rfl) (Nat.le_of_ble_eq_true rfl) rfl (Nat.le_of_ble_eq_true rfl) rfl rfl g8 g1 k
theorem bX12_appended_63 {d : Nat} {h : HP} {Q : Out → HP → Prop} {v0 : Nat} {v1 : Int32} {v2 : UInt32} {v3 : Int32} {v4 : Int32} {u5 : Option Value} {u6 : Option Value} {u7 : Option Value} {u8 : Option Value} {u9 : Option Value} {s0 : Int32} (k : (hK h v0 = 12) ∧ ((hK h (hR h 1249 v0) = 20) ∧ ((inA h (hR h 1249 v0) (5 : Int32) = true) ∧ (((s0 = (hAI h (hR h 1249 v0) ((5 : Int32)).toNatClampNeg)) → (inA h (hR h 1249 v0) (8 : Int32) = true) ∧ (WP (d + 1) mX12_appended 122 [some (.ref v0), some (.int v1), some (.float v2), some (.int v3), some (.int v4), some (.int (hAI h (hR h 1249 v0) ((8 : Int32)).toNatClampNeg)), some (.int (0 : Int32)), some (.int (0 : Int32)), u8, u9] [] h Q)) ∧ ((¬ (s0 = (hAI h (hR h 1249 v0) ((5 : Int32)).toNatClampNeg))) → (hK h (hR h 1212 v0) = 20) ∧ ((inA h (hR h 1212 v0) v1 = true) ∧ ((((hAI h (hR h 1212 v0) (v1).toNatClampNeg) ≤ (v4 - (1 : Int32))) → (1 < v0) ∧ (WP d mX12_acks 0 [some (.ref v0), some (.int v1), some (.int v3), some (.int (0 : Int32)), some (.int (hAI h (hR h 1212 v0) (v1).toNatClampNeg)), some (.float v2), none] [] h (KK d mX12_appended mX12_acks 103 [some (.ref v0), some (.int v1), some (.float v2), some (.int v3), some (.int v4), u5, u6, u7, u8, u9] [] Q))) ∧ ((¬ ((hAI h (hR h 1212 v0) (v1).toNatClampNeg) ≤ (v4 - (1 : Int32)))) → (1 < v0) ∧ (WP d mX12_acks 0 [some (.ref v0), some (.int v1), some (.int v3), some (.int (0 : Int32)), some (.int (v4 - (1 : Int32))), some (.float v2), none] [] h (KK d mX12_appended mX12_acks 103 [some (.ref v0), some (.int v1), some (.float v2), some (.int v3), some (.int v4), u5, u6, u7, u8, u9] [] Q)))))))))) : WP (d + 1) mX12_appended 63 [some (.ref v0), some (.int v1), some (.float v2), some (.int v3), some (.int v4), u5, u6, u7, u8, u9] [.int s0] h Q := by
  refine w_aload_n dX12_appended_63 rfl ?_
  obtain ⟨g1, k⟩ := k
  refine w_getR dX12_appended_64 f_12_144 t_12_49 g1 ?_
  refine w_iconst dX12_appended_67 i1_5 ?_
  obtain ⟨g2, k⟩ := k
  obtain ⟨g3, k⟩ := k
  refine w_iaload dX12_appended_68 g2 g3 ?_
  refine w_ic_eq (pc' := 107) dX12_appended_69 rfl rfl ⟨fun c => ?_, fun c => ?_⟩
  · replace k := k.1 c
    refine w_aload_n dX12_appended_107 rfl ?_
    refine w_getR dX12_appended_108 f_12_144 t_12_49 g1 ?_
    refine w_bipush dX12_appended_111 i2_8 ?_
    obtain ⟨g4, k⟩ := k
    refine w_iaload dX12_appended_113 g2 g4 ?_
    refine w_istore (lo' := [some (.ref v0), some (.int v1), some (.float v2), some (.int v3), some (.int v4), some (.int (hAI h (hR h 1249 v0) ((8 : Int32)).toNatClampNeg)), u6, u7, u8, u9]) dX12_appended_114 (ltQ rfl) rfl ?_
    refine w_iconst dX12_appended_116 i1_0 ?_
    refine w_istore (lo' := [some (.ref v0), some (.int v1), some (.float v2), some (.int v3), some (.int v4), some (.int (hAI h (hR h 1249 v0) ((8 : Int32)).toNatClampNeg)), some (.int (0 : Int32)), u7, u8, u9]) dX12_appended_117 (ltQ rfl) rfl ?_
    refine w_iconst dX12_appended_119 i1_0 ?_
    refine w_istore (lo' := [some (.ref v0), some (.int v1), some (.float v2), some (.int v3), some (.int v4), some (.int (hAI h (hR h 1249 v0) ((8 : Int32)).toNatClampNeg)), some (.int (0 : Int32)), some (.int (0 : Int32)), u8, u9]) dX12_appended_120 (ltQ rfl) rfl ?_
    exact k
  · replace k := k.2 c
    refine w_aload_n dX12_appended_72 rfl ?_
    refine w_iload_n dX12_appended_73 rfl ?_
    refine w_iload_n dX12_appended_74 rfl ?_
    refine w_iconst dX12_appended_75 i1_0 ?_
    refine w_iload dX12_appended_76 rfl ?_
    refine w_iconst dX12_appended_78 i1_1 ?_
    refine w_isub dX12_appended_79 ?_
    refine w_aload_n dX12_appended_80 rfl ?_
    refine w_getR dX12_appended_81 f_12_42 t_12_12 g1 ?_
    refine w_iload_n dX12_appended_84 rfl ?_
    obtain ⟨g5, k⟩ := k
    obtain ⟨g6, k⟩ := k
    refine w_iaload dX12_appended_85 g5 g6 ?_
    refine w_ic_ge (pc' := 96) dX12_appended_86 rfl rfl ⟨fun c => ?_, fun c => ?_⟩
    · replace k := k.1 c
      refine w_aload_n dX12_appended_96 rfl ?_
      refine w_getR dX12_appended_97 f_12_42 t_12_12 g1 ?_
      refine w_iload_n dX12_appended_100 rfl ?_
      refine w_iaload dX12_appended_101 g5 g6 ?_
      refine w_fload_n dX12_appended_102 rfl ?_
      obtain ⟨g7, k⟩ := k
      exact w_virt (as1 := [.float v2, .int (hAI h (hR h 1212 v0) (v1).toNatClampNeg), .int (0 : Int32), .int v3, .int v1, .ref v0]) (as2 := [.ref v0, .int v1, .int v3, .int (0 : Int32), .int (hAI h (hR h 1212 v0) (v1).toNatClampNeg), .float v2]) (rest := []) (lo2 := [some (.ref v0), some (.int v1), some (.int v3), some (.int (0 : Int32)), some (.int (hAI h (hR h 1212 v0) (v1).toNatClampNeg)), some (.float v2), none]) dX12_appended_103 c_12_245 rfl rfl rfl (Nat.le_of_ble_eq_true rfl) (Nat.le_of_ble_eq_true rfl) rfl (Nat.le_of_ble_eq_true rfl) rfl rfl g7 g1 k
    · replace k := k.2 c
      refine w_iload dX12_appended_89 rfl ?_
      refine w_iconst dX12_appended_91 i1_1 ?_
      refine w_isub dX12_appended_92 ?_
      refine w_goto (pc' := 102) dX12_appended_93 rfl rfl ?_
      refine w_fload_n dX12_appended_102 rfl ?_
      obtain ⟨g8, k⟩ := k
      exact w_virt (as1 := [.float v2, .int (v4 - (1 : Int32)), .int (0 : Int32), .int v3, .int v1, .ref v0]) (as2 := [.ref v0, .int v1, .int v3, .int (0 : Int32), .int (v4 - (1 : Int32)), .float v2]) (rest := []) (lo2 := [some (.ref v0), some (.int v1), some (.int v3), some (.int (0 : Int32)), some (.int (v4 - (1 : Int32))), some (.float v2), none]) dX12_appended_103 c_12_245 rfl rfl rfl (Nat.le_of_ble_eq_true rfl) (Nat.le_of_ble_eq_true rfl) rfl (Nat.le_of_ble_eq_true rfl) rfl rfl g8 g1 k
theorem bX12_appended_106 {d : Nat} {h : HP} {Q : Out → HP → Prop} {v0 : Nat} {v1 : Int32} {v2 : UInt32} {v3 : Int32} {v4 : Int32} {u5 : Option Value} {u6 : Option Value} {u7 : Option Value} {u8 : Option Value} {u9 : Option Value} (k : Q (.inl none) h) : WP d mX12_appended 106 [some (.ref v0), some (.int v1), some (.float v2), some (.int v3), some (.int v4), u5, u6, u7, u8, u9] [] h Q := by
  exact w_return dX12_appended_106 rfl k
theorem bX12_appended_122 {d : Nat} {h : HP} {Q : Out → HP → Prop} {v0 : Nat} {v1 : Int32} {v2 : UInt32} {v3 : Int32} {v4 : Int32} {v5 : Int32} {v6 : Int32} {v7 : Int32} {u8 : Option Value} {u9 : Option Value} (k : ((v5 ≤ v7) → (hK h v0 = 12) ∧ ((hK h (hR h 1249 v0) = 20) ∧ ((inA h (hR h 1249 v0) (6 : Int32) = true) ∧ ((((v4 + v5) ≤ (hAI h (hR h 1249 v0) ((6 : Int32)).toNatClampNeg)) → (hK h (hR h 1213 v0) = 20) ∧ ((inA h (hR h 1213 v0) v1 = true) ∧ ((((v4 + v5) ≤ (hAI h (hR h 1213 v0) (v1).toNatClampNeg)) → (hK (sAI h (hR h 1213 v0) (v1).toNatClampNeg (hAI h (hR h 1213 v0) (v1).toNatClampNeg)) v0 = 12) ∧ ((hK (sAI h (hR h 1213 v0) (v1).toNatClampNeg (hAI h (hR h 1213 v0) (v1).toNatClampNeg)) (hR (sAI h (hR h 1213 v0) (v1).toNatClampNeg (hAI h (hR h 1213 v0) (v1).toNatClampNeg)) 1225 v0) = 20) ∧ ((inA (sAI h (hR h 1213 v0) (v1).toNatClampNeg (hAI h (hR h 1213 v0) (v1).toNatClampNeg)) (hR (sAI h (hR h 1213 v0) (v1).toNatClampNeg (hAI h (hR h 1213 v0) (v1).toNatClampNeg)) 1225 v0) v1 = true) ∧ ((hK (sAI (sAI h (hR h 1213 v0) (v1).toNatClampNeg (hAI h (hR h 1213 v0) (v1).toNatClampNeg)) (hR (sAI h (hR h 1213 v0) (v1).toNatClampNeg (hAI h (hR h 1213 v0) (v1).toNatClampNeg)) 1225 v0) (v1).toNatClampNeg v3) v0 = 12) ∧ (WP (d + 1) mX12_appended 360 [some (.ref v0), some (.int v1), some (.float v2), some (.int v3), some (.int v4), some (.int v5), some (.int v6), some (.int (v4 + v5)), u8, u9] [.ref (hR (sAI (sAI h (hR h 1213 v0) (v1).toNatClampNeg (hAI h (hR h 1213 v0) (v1).toNatClampNeg)) (hR (sAI h (hR h 1213 v0) (v1).toNatClampNeg (hAI h (hR h 1213 v0) (v1).toNatClampNeg)) 1225 v0) (v1).toNatClampNeg v3) 1226 v0)] (sAI (sAI h (hR h 1213 v0) (v1).toNatClampNeg (hAI h (hR h 1213 v0) (v1).toNatClampNeg)) (hR (sAI h (hR h 1213 v0) (v1).toNatClampNeg (hAI h (hR h 1213 v0) (v1).toNatClampNeg)) 1225 v0) (v1).toNatClampNeg v3) Q))))) ∧ ((¬ ((v4 + v5) ≤ (hAI h (hR h 1213 v0) (v1).toNatClampNeg))) → (hK (sAI h (hR h 1213 v0) (v1).toNatClampNeg (v4 + v5)) v0 = 12) ∧ ((hK (sAI h (hR h 1213 v0) (v1).toNatClampNeg (v4 + v5)) (hR (sAI h (hR h 1213 v0) (v1).toNatClampNeg (v4 + v5)) 1225 v0) = 20) ∧ ((inA (sAI h (hR h 1213 v0) (v1).toNatClampNeg (v4 + v5)) (hR (sAI h (hR h 1213 v0) (v1).toNatClampNeg (v4 + v5)) 1225 v0) v1 = true) ∧ ((hK (sAI (sAI h (hR h 1213 v0) (v1).toNatClampNeg (v4 + v5)) (hR (sAI h (hR h 1213 v0) (v1).toNatClampNeg (v4 + v5)) 1225 v0) (v1).toNatClampNeg v3) v0 = 12) ∧ (WP (d + 1) mX12_appended 360 [some (.ref v0), some (.int v1), some (.float v2), some (.int v3), some (.int v4), some (.int v5), some (.int v6), some (.int (v4 + v5)), u8, u9] [.ref (hR (sAI (sAI h (hR h 1213 v0) (v1).toNatClampNeg (v4 + v5)) (hR (sAI h (hR h 1213 v0) (v1).toNatClampNeg (v4 + v5)) 1225 v0) (v1).toNatClampNeg v3) 1226 v0)] (sAI (sAI h (hR h 1213 v0) (v1).toNatClampNeg (v4 + v5)) (hR (sAI h (hR h 1213 v0) (v1).toNatClampNeg (v4 + v5)) 1225 v0) (v1).toNatClampNeg v3) Q)))))))) ∧ ((¬ ((v4 + v5) ≤ (hAI h (hR h 1249 v0) ((6 : Int32)).toNatClampNeg))) → (hK h (hR h 1213 v0) = 20) ∧ ((inA h (hR h 1213 v0) v1 = true) ∧ ((((hAI h (hR h 1249 v0) ((6 : Int32)).toNatClampNeg) ≤ (hAI h (hR h 1213 v0) (v1).toNatClampNeg)) → (hK (sAI h (hR h 1213 v0) (v1).toNatClampNeg (hAI h (hR h 1213 v0) (v1).toNatClampNeg)) v0 = 12) ∧ ((hK (sAI h (hR h 1213 v0) (v1).toNatClampNeg (hAI h (hR h 1213 v0) (v1).toNatClampNeg)) (hR (sAI h (hR h 1213 v0) (v1).toNatClampNeg (hAI h (hR h 1213 v0) (v1).toNatClampNeg)) 1225 v0) = 20) ∧ ((inA (sAI h (hR h 1213 v0) (v1).toNatClampNeg (hAI h (hR h 1213 v0) (v1).toNatClampNeg)) (hR (sAI h (hR h 1213 v0) (v1).toNatClampNeg (hAI h (hR h 1213 v0) (v1).toNatClampNeg)) 1225 v0) v1 = true) ∧ ((hK (sAI (sAI h (hR h 1213 v0) (v1).toNatClampNeg (hAI h (hR h 1213 v0) (v1).toNatClampNeg)) (hR (sAI h (hR h 1213 v0) (v1).toNatClampNeg (hAI h (hR h 1213 v0) (v1).toNatClampNeg)) 1225 v0) (v1).toNatClampNeg v3) v0 = 12) ∧ (WP (d + 1) mX12_appended 360 [some (.ref v0), some (.int v1), some (.float v2), some (.int v3), some (.int v4), some (.int v5), some (.int v6), some (.int (hAI h (hR h 1249 v0) ((6 : Int32)).toNatClampNeg)), u8, u9] [.ref (hR (sAI (sAI h (hR h 1213 v0) (v1).toNatClampNeg (hAI h (hR h 1213 v0) (v1).toNatClampNeg)) (hR (sAI h (hR h 1213 v0) (v1).toNatClampNeg (hAI h (hR h 1213 v0) (v1).toNatClampNeg)) 1225 v0) (v1).toNatClampNeg v3) 1226 v0)] (sAI (sAI h (hR h 1213 v0) (v1).toNatClampNeg (hAI h (hR h 1213 v0) (v1).toNatClampNeg)) (hR (sAI h (hR h 1213 v0) (v1).toNatClampNeg (hAI h (hR h 1213 v0) (v1).toNatClampNeg)) 1225 v0) (v1).toNatClampNeg v3) Q))))) ∧ ((¬ ((hAI h (hR h 1249 v0) ((6 : Int32)).toNatClampNeg) ≤ (hAI h (hR h 1213 v0) (v1).toNatClampNeg))) → (hK (sAI h (hR h 1213 v0) (v1).toNatClampNeg (hAI h (hR h 1249 v0) ((6 : Int32)).toNatClampNeg)) v0 = 12) ∧ ((hK (sAI h (hR h 1213 v0) (v1).toNatClampNeg (hAI h (hR h 1249 v0) ((6 : Int32)).toNatClampNeg)) (hR (sAI h (hR h 1213 v0) (v1).toNatClampNeg (hAI h (hR h 1249 v0) ((6 : Int32)).toNatClampNeg)) 1225 v0) = 20) ∧ ((inA (sAI h (hR h 1213 v0) (v1).toNatClampNeg (hAI h (hR h 1249 v0) ((6 : Int32)).toNatClampNeg)) (hR (sAI h (hR h 1213 v0) (v1).toNatClampNeg (hAI h (hR h 1249 v0) ((6 : Int32)).toNatClampNeg)) 1225 v0) v1 = true) ∧ ((hK (sAI (sAI h (hR h 1213 v0) (v1).toNatClampNeg (hAI h (hR h 1249 v0) ((6 : Int32)).toNatClampNeg)) (hR (sAI h (hR h 1213 v0) (v1).toNatClampNeg (hAI h (hR h 1249 v0) ((6 : Int32)).toNatClampNeg)) 1225 v0) (v1).toNatClampNeg v3) v0 = 12) ∧ (WP (d + 1) mX12_appended 360 [some (.ref v0), some (.int v1), some (.float v2), some (.int v3), some (.int v4), some (.int v5), some (.int v6), some (.int (hAI h (hR h 1249 v0) ((6 : Int32)).toNatClampNeg)), u8, u9] [.ref (hR (sAI (sAI h (hR h 1213 v0) (v1).toNatClampNeg (hAI h (hR h 1249 v0) ((6 : Int32)).toNatClampNeg)) (hR (sAI h (hR h 1213 v0) (v1).toNatClampNeg (hAI h (hR h 1249 v0) ((6 : Int32)).toNatClampNeg)) 1225 v0) (v1).toNatClampNeg v3) 1226 v0)] (sAI (sAI h (hR h 1213 v0) (v1).toNatClampNeg (hAI h (hR h 1249 v0) ((6 : Int32)).toNatClampNeg)) (hR (sAI h (hR h 1213 v0) (v1).toNatClampNeg (hAI h (hR h 1249 v0) ((6 : Int32)).toNatClampNeg)) 1225 v0) (v1).toNatClampNeg v3) Q)))))))))))) ∧ ((¬ (v5 ≤ v7)) → ((¬ v6 = 0) → (((1 : Int32) = 0) → WP (d + 1) mX12_appended 122 [some (.ref v0), some (.int v1), some (.float v2), some (.int v3), some (.int v4), some (.int v5), some (.int (1 : Int32)), some (.int (v7 + (1 : Int32))), some (.int ((v4 + v7) + (1 : Int32))), u9] [] h Q) ∧ ((¬ ((1 : Int32) = 0)) → (hK h v0 = 12) ∧ ((hK h (hR h 1249 v0) = 20) ∧ ((inA h (hR h 1249 v0) ((10 : Int32) + ((4 : Int32) * v7)) = true) ∧ ((hK h (hR h 1214 v0) = 20) ∧ ((inA h (hR h 1214 v0) ((((30 : Int32) * v1) + ((v4 + v7) + (1 : Int32))) - (1 : Int32)) = true) ∧ ((hK (sAI h (hR h 1214 v0) (((((30 : Int32) * v1) + ((v4 + v7) + (1 : Int32))) - (1 : Int32))).toNatClampNeg (hAI h (hR h 1249 v0) (((10 : Int32) + ((4 : Int32) * v7))).toNatClampNeg)) v0 = 12) ∧ (WP (d + 1) mX12_appended 224 [some (.ref v0), some (.int v1), some (.float v2), some (.int v3), some (.int v4), some (.int v5), some (.int (1 : Int32)), some (.int v7), some (.int ((v4 + v7) + (1 : Int32))), some (.int ((((30 : Int32) * v1) + ((v4 + v7) + (1 : Int32))) - (1 : Int32)))] [.int ((((30 : Int32) * v1) + ((v4 + v7) + (1 : Int32))) - (1 : Int32)), .ref (hR (sAI h (hR h 1214 v0) (((((30 : Int32) * v1) + ((v4 + v7) + (1 : Int32))) - (1 : Int32))).toNatClampNeg (hAI h (hR h 1249 v0) (((10 : Int32) + ((4 : Int32) * v7))).toNatClampNeg)) 1215 v0)] (sAI h (hR h 1214 v0) (((((30 : Int32) * v1) + ((v4 + v7) + (1 : Int32))) - (1 : Int32))).toNatClampNeg (hAI h (hR h 1249 v0) (((10 : Int32) + ((4 : Int32) * v7))).toNatClampNeg)) Q)))))))) ∧ ((¬ (¬ v6 = 0)) → (hK h v0 = 12) ∧ ((hK h (hR h 1212 v0) = 20) ∧ ((inA h (hR h 1212 v0) v1 = true) ∧ ((((hAI h (hR h 1212 v0) (v1).toNatClampNeg) < ((v4 + v7) + (1 : Int32))) → (((1 : Int32) = 0) → WP (d + 1) mX12_appended 122 [some (.ref v0), some (.int v1), some (.float v2), some (.int v3), some (.int v4), some (.int v5), some (.int (1 : Int32)), some (.int (v7 + (1 : Int32))), some (.int ((v4 + v7) + (1 : Int32))), u9] [] h Q) ∧ ((¬ ((1 : Int32) = 0)) → (hK h (hR h 1249 v0) = 20) ∧ ((inA h (hR h 1249 v0) ((10 : Int32) + ((4 : Int32) * v7)) = true) ∧ ((hK h (hR h 1214 v0) = 20) ∧ ((inA h (hR h 1214 v0) ((((30 : Int32) * v1) + ((v4 + v7) + (1 : Int32))) - (1 : Int32)) = true) ∧ ((hK (sAI h (hR h 1214 v0) (((((30 : Int32) * v1) + ((v4 + v7) + (1 : Int32))) - (1 : Int32))).toNatClampNeg (hAI h (hR h 1249 v0) (((10 : Int32) + ((4 : Int32) * v7))).toNatClampNeg)) v0 = 12) ∧ (WP (d + 1) mX12_appended 224 [some (.ref v0), some (.int v1), some (.float v2), some (.int v3), some (.int v4), some (.int v5), some (.int (1 : Int32)), some (.int v7), some (.int ((v4 + v7) + (1 : Int32))), some (.int ((((30 : Int32) * v1) + ((v4 + v7) + (1 : Int32))) - (1 : Int32)))] [.int ((((30 : Int32) * v1) + ((v4 + v7) + (1 : Int32))) - (1 : Int32)), .ref (hR (sAI h (hR h 1214 v0) (((((30 : Int32) * v1) + ((v4 + v7) + (1 : Int32))) - (1 : Int32))).toNatClampNeg (hAI h (hR h 1249 v0) (((10 : Int32) + ((4 : Int32) * v7))).toNatClampNeg)) 1215 v0)] (sAI h (hR h 1214 v0) (((((30 : Int32) * v1) + ((v4 + v7) + (1 : Int32))) - (1 : Int32))).toNatClampNeg (hAI h (hR h 1249 v0) (((10 : Int32) + ((4 : Int32) * v7))).toNatClampNeg)) Q))))))) ∧ ((¬ ((hAI h (hR h 1212 v0) (v1).toNatClampNeg) < ((v4 + v7) + (1 : Int32)))) → (1 < v0) ∧ (WP d mX12_termAt 0 [some (.ref v0), some (.int v1), some (.int ((v4 + v7) + (1 : Int32)))] [] h (KK d mX12_appended mX12_termAt 158 [some (.ref v0), some (.int v1), some (.float v2), some (.int v3), some (.int v4), some (.int v5), some (.int v6), some (.int v7), some (.int ((v4 + v7) + (1 : Int32))), u9] [] Q))))))))) : WP (d + 1) mX12_appended 122 [some (.ref v0), some (.int v1), some (.float v2), some (.int v3), some (.int v4), some (.int v5), some (.int v6), some (.int v7), u8, u9] [] h Q := by
  refine w_iload dX12_appended_122 rfl ?_
  refine w_iload dX12_appended_124 rfl ?_
  refine w_ic_ge (pc' := 289) dX12_appended_126 rfl rfl ⟨fun c => ?_, fun c => ?_⟩
  · replace k := k.1 c
    refine w_aload_n dX12_appended_289 rfl ?_
    obtain ⟨g1, k⟩ := k
    refine w_getR dX12_appended_290 f_12_144 t_12_49 g1 ?_
    refine w_bipush dX12_appended_293 i2_6 ?_
    obtain ⟨g2, k⟩ := k
    obtain ⟨g3, k⟩ := k
    refine w_iaload dX12_appended_295 g2 g3 ?_
    refine w_iload dX12_appended_296 rfl ?_
    refine w_iload dX12_appended_298 rfl ?_
    refine w_iadd dX12_appended_300 ?_
    refine w_ic_ge (pc' := 314) dX12_appended_301 rfl rfl ⟨fun c => ?_, fun c => ?_⟩
    · replace k := k.1 c
      refine w_iload dX12_appended_314 rfl ?_
      refine w_iload dX12_appended_316 rfl ?_
      refine w_iadd dX12_appended_318 ?_
      refine w_istore (lo' := [some (.ref v0), some (.int v1), some (.float v2), some (.int v3), some (.int v4), some (.int v5), some (.int v6), some (.int (v4 + v5)), u8, u9]) dX12_appended_319 (ltQ rfl) rfl ?_
      refine w_aload_n dX12_appended_321 rfl ?_
      refine w_getR dX12_appended_322 f_12_45 t_12_13 g1 ?_
      refine w_iload_n dX12_appended_325 rfl ?_
      refine w_iload dX12_appended_326 rfl ?_
      refine w_aload_n dX12_appended_328 rfl ?_
      refine w_getR dX12_appended_329 f_12_45 t_12_13 g1 ?_
      refine w_iload_n dX12_appended_332 rfl ?_
      obtain ⟨g4, k⟩ := k
      obtain ⟨g5, k⟩ := k
      refine w_iaload dX12_appended_333 g4 g5 ?_
      refine w_ic_le (pc' := 342) dX12_appended_334 rfl rfl ⟨fun c => ?_, fun c => ?_⟩
      · replace k := k.1 c
        refine w_aload_n dX12_appended_342 rfl ?_
        refine w_getR dX12_appended_343 f_12_45 t_12_13 g1 ?_
        refine w_iload_n dX12_appended_346 rfl ?_
        refine w_iaload dX12_appended_347 g4 g5 ?_
        refine w_iastore dX12_appended_348 g4 g5 ?_
        refine w_aload_n dX12_appended_349 rfl ?_
        obtain ⟨g6, k⟩ := k
        refine w_getR dX12_appended_350 f_12_81 t_12_25 g6 ?_
        refine w_iload_n dX12_appended_353 rfl ?_
        refine w_iload_n dX12_appended_354 rfl ?_
        obtain ⟨g7, k⟩ := k
        obtain ⟨g8, k⟩ := k
        refine w_iastore dX12_appended_355 g7 g8 ?_
        refine w_aload_n dX12_appended_356 rfl ?_
        obtain ⟨g9, k⟩ := k
        refine w_getR dX12_appended_357 f_12_84 t_12_26 g9 ?_
        exact k
      · replace k := k.2 c
        refine w_iload dX12_appended_337 rfl ?_
        refine w_goto (pc' := 348) dX12_appended_339 rfl rfl ?_
        refine w_iastore dX12_appended_348 g4 g5 ?_
        refine w_aload_n dX12_appended_349 rfl ?_
        obtain ⟨g10, k⟩ := k
        refine w_getR dX12_appended_350 f_12_81 t_12_25 g10 ?_
        refine w_iload_n dX12_appended_353 rfl ?_
        refine w_iload_n dX12_appended_354 rfl ?_
        obtain ⟨g11, k⟩ := k
        obtain ⟨g12, k⟩ := k
        refine w_iastore dX12_appended_355 g11 g12 ?_
        refine w_aload_n dX12_appended_356 rfl ?_
        obtain ⟨g13, k⟩ := k
        refine w_getR dX12_appended_357 f_12_84 t_12_26 g13 ?_
        exact k
    · replace k := k.2 c
      refine w_aload_n dX12_appended_304 rfl ?_
      refine w_getR dX12_appended_305 f_12_144 t_12_49 g1 ?_
      refine w_bipush dX12_appended_308 i2_6 ?_
      refine w_iaload dX12_appended_310 g2 g3 ?_
      refine w_goto (pc' := 319) dX12_appended_311 rfl rfl ?_
      refine w_istore (lo' := [some (.ref v0), some (.int v1), some (.float v2), some (.int v3), some (.int v4), some (.int v5), some (.int v6), some (.int (hAI h (hR h 1249 v0) ((6 : Int32)).toNatClampNeg)), u8, u9]) dX12_appended_319 (ltQ rfl) rfl ?_
      refine w_aload_n dX12_appended_321 rfl ?_
      refine w_getR dX12_appended_322 f_12_45 t_12_13 g1 ?_
      refine w_iload_n dX12_appended_325 rfl ?_
      refine w_iload dX12_appended_326 rfl ?_
      refine w_aload_n dX12_appended_328 rfl ?_
      refine w_getR dX12_appended_329 f_12_45 t_12_13 g1 ?_
      refine w_iload_n dX12_appended_332 rfl ?_
      obtain ⟨g14, k⟩ := k
      obtain ⟨g15, k⟩ := k
      refine w_iaload dX12_appended_333 g14 g15 ?_
      refine w_ic_le (pc' := 342) dX12_appended_334 rfl rfl ⟨fun c => ?_, fun c => ?_⟩
      · replace k := k.1 c
        refine w_aload_n dX12_appended_342 rfl ?_
        refine w_getR dX12_appended_343 f_12_45 t_12_13 g1 ?_
        refine w_iload_n dX12_appended_346 rfl ?_
        refine w_iaload dX12_appended_347 g14 g15 ?_
        refine w_iastore dX12_appended_348 g14 g15 ?_
        refine w_aload_n dX12_appended_349 rfl ?_
        obtain ⟨g16, k⟩ := k
        refine w_getR dX12_appended_350 f_12_81 t_12_25 g16 ?_
        refine w_iload_n dX12_appended_353 rfl ?_
        refine w_iload_n dX12_appended_354 rfl ?_
        obtain ⟨g17, k⟩ := k
        obtain ⟨g18, k⟩ := k
        refine w_iastore dX12_appended_355 g17 g18 ?_
        refine w_aload_n dX12_appended_356 rfl ?_
        obtain ⟨g19, k⟩ := k
        refine w_getR dX12_appended_357 f_12_84 t_12_26 g19 ?_
        exact k
      · replace k := k.2 c
        refine w_iload dX12_appended_337 rfl ?_
        refine w_goto (pc' := 348) dX12_appended_339 rfl rfl ?_
        refine w_iastore dX12_appended_348 g14 g15 ?_
        refine w_aload_n dX12_appended_349 rfl ?_
        obtain ⟨g20, k⟩ := k
        refine w_getR dX12_appended_350 f_12_81 t_12_25 g20 ?_
        refine w_iload_n dX12_appended_353 rfl ?_
        refine w_iload_n dX12_appended_354 rfl ?_
        obtain ⟨g21, k⟩ := k
        obtain ⟨g22, k⟩ := k
        refine w_iastore dX12_appended_355 g21 g22 ?_
        refine w_aload_n dX12_appended_356 rfl ?_
        obtain ⟨g23, k⟩ := k
        refine w_getR dX12_appended_357 f_12_84 t_12_26 g23 ?_
        exact k
  · replace k := k.2 c
    refine w_iload dX12_appended_129 rfl ?_
    refine w_iload dX12_appended_131 rfl ?_
    refine w_iadd dX12_appended_133 ?_
    refine w_iconst dX12_appended_134 i1_1 ?_
    refine w_iadd dX12_appended_135 ?_
    refine w_istore (lo' := [some (.ref v0), some (.int v1), some (.float v2), some (.int v3), some (.int v4), some (.int v5), some (.int v6), some (.int v7), some (.int ((v4 + v7) + (1 : Int32))), u9]) dX12_appended_136 (ltQ rfl) rfl ?_
    refine w_iload dX12_appended_138 rfl ?_
    refine w_if_ne (pc' := 176) dX12_appended_140 rfl rfl ⟨fun c => ?_, fun c => ?_⟩
    · replace k := k.1 c
      refine w_iconst dX12_appended_176 i1_1 ?_
      refine w_goto (pc' := 181) dX12_appended_177 rfl rfl ?_
      refine w_istore (lo' := [some (.ref v0), some (.int v1), some (.float v2), some (.int v3), some (.int v4), some (.int v5), some (.int (1 : Int32)), some (.int v7), some (.int ((v4 + v7) + (1 : Int32))), u9]) dX12_appended_181 (ltQ rfl) rfl ?_
      refine w_iload dX12_appended_183 rfl ?_
      refine w_if_eq (pc' := 283) dX12_appended_185 rfl rfl ⟨fun c => ?_, fun c => ?_⟩
      · replace k := k.1 c
        refine w_iinc (lo' := [some (.ref v0), some (.int v1), some (.float v2), some (.int v3), some (.int v4), some (.int v5), some (.int (1 : Int32)), some (.int (v7 + (1 : Int32))), some (.int ((v4 + v7) + (1 : Int32))), u9]) dX12_appended_283 rfl i1_1 rfl ?_
        refine w_goto (pc' := 122) dX12_appended_286 rfl rfl ?_
        exact k
      · replace k := k.2 c
        refine w_bipush dX12_appended_188 i2_30 ?_
        refine w_iload_n dX12_appended_190 rfl ?_
        refine w_imul dX12_appended_191 ?_
        refine w_iload dX12_appended_192 rfl ?_
        refine w_iadd dX12_appended_194 ?_
        refine w_iconst dX12_appended_195 i1_1 ?_
        refine w_isub dX12_appended_196 ?_
        refine w_istore (lo' := [some (.ref v0), some (.int v1), some (.float v2), some (.int v3), some (.int v4), some (.int v5), some (.int (1 : Int32)), some (.int v7), some (.int ((v4 + v7) + (1 : Int32))), some (.int ((((30 : Int32) * v1) + ((v4 + v7) + (1 : Int32))) - (1 : Int32)))]) dX12_appended_197 (ltQ rfl) rfl ?_
        refine w_aload_n dX12_appended_199 rfl ?_
        obtain ⟨g24, k⟩ := k
        refine w_getR dX12_appended_200 f_12_48 t_12_14 g24 ?_
        refine w_iload dX12_appended_203 rfl ?_
        refine w_aload_n dX12_appended_205 rfl ?_
        refine w_getR dX12_appended_206 f_12_144 t_12_49 g24 ?_
        refine w_bipush dX12_appended_209 i2_10 ?_
        refine w_iconst dX12_appended_211 i1_4 ?_
        refine w_iload dX12_appended_212 rfl ?_
        refine w_imul dX12_appended_214 ?_
        refine w_iadd dX12_appended_215 ?_
        obtain ⟨g25, k⟩ := k
        obtain ⟨g26, k⟩ := k
        refine w_iaload dX12_appended_216 g25 g26 ?_
        obtain ⟨g27, k⟩ := k
        obtain ⟨g28, k⟩ := k
        refine w_iastore dX12_appended_217 g27 g28 ?_
        refine w_aload_n dX12_appended_218 rfl ?_
        obtain ⟨g29, k⟩ := k
        refine w_getR dX12_appended_219 f_12_51 t_12_15 g29 ?_
        refine w_iload dX12_appended_222 rfl ?_
        exact k
    · replace k := k.2 c
      refine w_iload dX12_appended_143 rfl ?_
      refine w_aload_n dX12_appended_145 rfl ?_
      obtain ⟨g30, k⟩ := k
      refine w_getR dX12_appended_146 f_12_42 t_12_12 g30 ?_
      refine w_iload_n dX12_appended_149 rfl ?_
      obtain ⟨g31, k⟩ := k
      obtain ⟨g32, k⟩ := k
      refine w_iaload dX12_appended_150 g31 g32 ?_
      refine w_ic_gt (pc' := 176) dX12_appended_151 rfl rfl ⟨fun c => ?_, fun c => ?_⟩
      · replace k := k.1 c
        refine w_iconst dX12_appended_176 i1_1 ?_
        refine w_goto (pc' := 181) dX12_appended_177 rfl rfl ?_
        refine w_istore (lo' := [some (.ref v0), some (.int v1), some (.float v2), some (.int v3), some (.int v4), some (.int v5), some (.int (1 : Int32)), some (.int v7), some (.int ((v4 + v7) + (1 : Int32))), u9]) dX12_appended_181 (ltQ rfl) rfl ?_
        refine w_iload dX12_appended_183 rfl ?_
        refine w_if_eq (pc' := 283) dX12_appended_185 rfl rfl ⟨fun c => ?_, fun c => ?_⟩
        · replace k := k.1 c
          refine w_iinc (lo' := [some (.ref v0), some (.int v1), some (.float v2), some (.int v3), some (.int v4), some (.int v5), some (.int (1 : Int32)), some (.int (v7 + (1 : Int32))), some (.int ((v4 + v7) + (1 : Int32))), u9]) dX12_appended_283 rfl i1_1 rfl ?_
          refine w_goto (pc' := 122) dX12_appended_286 rfl rfl ?_
          exact k
        · replace k := k.2 c
          refine w_bipush dX12_appended_188 i2_30 ?_
          refine w_iload_n dX12_appended_190 rfl ?_
          refine w_imul dX12_appended_191 ?_
          refine w_iload dX12_appended_192 rfl ?_
          refine w_iadd dX12_appended_194 ?_
          refine w_iconst dX12_appended_195 i1_1 ?_
          refine w_isub dX12_appended_196 ?_
          refine w_istore (lo' := [some (.ref v0), some (.int v1), some (.float v2), some (.int v3), some (.int v4), some (.int v5), some (.int (1 : Int32)), some (.int v7), some (.int ((v4 + v7) + (1 : Int32))), some (.int ((((30 : Int32) * v1) + ((v4 + v7) + (1 : Int32))) - (1 : Int32)))]) dX12_appended_197 (ltQ rfl) rfl ?_
          refine w_aload_n dX12_appended_199 rfl ?_
          refine w_getR dX12_appended_200 f_12_48 t_12_14 g30 ?_
          refine w_iload dX12_appended_203 rfl ?_
          refine w_aload_n dX12_appended_205 rfl ?_
          refine w_getR dX12_appended_206 f_12_144 t_12_49 g30 ?_
          refine w_bipush dX12_appended_209 i2_10 ?_
          refine w_iconst dX12_appended_211 i1_4 ?_
          refine w_iload dX12_appended_212 rfl ?_
          refine w_imul dX12_appended_214 ?_
          refine w_iadd dX12_appended_215 ?_
          obtain ⟨g33, k⟩ := k
          obtain ⟨g34, k⟩ := k
          refine w_iaload dX12_appended_216 g33 g34 ?_
          obtain ⟨g35, k⟩ := k
          obtain ⟨g36, k⟩ := k
          refine w_iastore dX12_appended_217 g35 g36 ?_
          refine w_aload_n dX12_appended_218 rfl ?_
          obtain ⟨g37, k⟩ := k
          refine w_getR dX12_appended_219 f_12_51 t_12_15 g37 ?_
          refine w_iload dX12_appended_222 rfl ?_
          exact k
      · replace k := k.2 c
        refine w_aload_n dX12_appended_154 rfl ?_
        refine w_iload_n dX12_appended_155 rfl ?_
        refine w_iload dX12_appended_156 rfl ?_
        obtain ⟨g38, k⟩ := k
        exact w_virt (as1 := [.int ((v4 + v7) + (1 : Int32)), .int v1, .ref v0]) (as2 := [.ref v0, .int v1, .int ((v4 + v7) + (1 : Int32))]) (rest := []) (lo2 := [some (.ref v0), some (.int v1), some (.int ((v4 + v7) + (1 : Int32)))]) dX12_appended_158 c_12_233 rfl rfl rfl (Nat.le_of_ble_eq_true rfl) (Nat.le_of_ble_eq_true rfl) rfl (Nat.le_of_ble_eq_true rfl) rfl rfl g38 g30 k
theorem bX12_appended_161 {d : Nat} {h : HP} {Q : Out → HP → Prop} {v0 : Nat} {v1 : Int32} {v2 : UInt32} {v3 : Int32} {v4 : Int32} {v5 : Int32} {v6 : Int32} {v7 : Int32} {v8 : Int32} {u9 : Option Value} {s0 : Int32} (k : (hK h v0 = 12) ∧ ((hK h (hR h 1249 v0) = 20) ∧ ((inA h (hR h 1249 v0) ((10 : Int32) + ((4 : Int32) * v7)) = true) ∧ (((s0 = (hAI h (hR h 1249 v0) (((10 : Int32) + ((4 : Int32) * v7))).toNatClampNeg)) → (((0 : Int32) = 0) → WP d mX12_appended 122 [some (.ref v0), some (.int v1), some (.float v2), some (.int v3), some (.int v4), some (.int v5), some (.int (0 : Int32)), some (.int (v7 + (1 : Int32))), some (.int v8), u9] [] h Q) ∧ ((¬ ((0 : Int32) = 0)) → (hK h (hR h 1214 v0) = 20) ∧ ((inA h (hR h 1214 v0) ((((30 : Int32) * v1) + v8) - (1 : Int32)) = true) ∧ ((hK (sAI h (hR h 1214 v0) (((((30 : Int32) * v1) + v8) - (1 : Int32))).toNatClampNeg (hAI h (hR h 1249 v0) (((10 : Int32) + ((4 : Int32) * v7))).toNatClampNeg)) v0 = 12) ∧ (WP d mX12_appended 224 [some (.ref v0), some (.int v1), some (.float v2), some (.int v3), some (.int v4), some (.int v5), some (.int (0 : Int32)), some (.int v7), some (.int v8), some (.int ((((30 : Int32) * v1) + v8) - (1 : Int32)))] [.int ((((30 : Int32) * v1) + v8) - (1 : Int32)), .ref (hR (sAI h (hR h 1214 v0) (((((30 : Int32) * v1) + v8) - (1 : Int32))).toNatClampNeg (hAI h (hR h 1249 v0) (((10 : Int32) + ((4 : Int32) * v7))).toNatClampNeg)) 1215 v0)] (sAI h (hR h 1214 v0) (((((30 : Int32) * v1) + v8) - (1 : Int32))).toNatClampNeg (hAI h (hR h 1249 v0) (((10 : Int32) + ((4 : Int32) * v7))).toNatClampNeg)) Q))))) ∧ ((¬ (s0 = (hAI h (hR h 1249 v0) (((10 : Int32) + ((4 : Int32) * v7))).toNatClampNeg))) → (((1 : Int32) = 0) → WP d mX12_appended 122 [some (.ref v0), some (.int v1), some (.float v2), some (.int v3), some (.int v4), some (.int v5), some (.int (1 : Int32)), some (.int (v7 + (1 : Int32))), some (.int v8), u9] [] h Q) ∧ ((¬ ((1 : Int32) = 0)) → (hK h (hR h 1214 v0) = 20) ∧ ((inA h (hR h 1214 v0) ((((30 : Int32) * v1) + v8) - (1 : Int32)) = true) ∧ ((hK (sAI h (hR h 1214 v0) (((((30 : Int32) * v1) + v8) - (1 : Int32))).toNatClampNeg (hAI h (hR h 1249 v0) (((10 : Int32) + ((4 : Int32) * v7))).toNatClampNeg)) v0 = 12) ∧ (WP d mX12_appended 224 [some (.ref v0), some (.int v1), some (.float v2), some (.int v3), some (.int v4), some (.int v5), some (.int (1 : Int32)), some (.int v7), some (.int v8), some (.int ((((30 : Int32) * v1) + v8) - (1 : Int32)))] [.int ((((30 : Int32) * v1) + v8) - (1 : Int32)), .ref (hR (sAI h (hR h 1214 v0) (((((30 : Int32) * v1) + v8) - (1 : Int32))).toNatClampNeg (hAI h (hR h 1249 v0) (((10 : Int32) + ((4 : Int32) * v7))).toNatClampNeg)) 1215 v0)] (sAI h (hR h 1214 v0) (((((30 : Int32) * v1) + v8) - (1 : Int32))).toNatClampNeg (hAI h (hR h 1249 v0) (((10 : Int32) + ((4 : Int32) * v7))).toNatClampNeg)) Q))))))))) : WP d mX12_appended 161 [some (.ref v0), some (.int v1), some (.float v2), some (.int v3), some (.int v4), some (.int v5), some (.int v6), some (.int v7), some (.int v8), u9] [.int s0] h Q := by
  refine w_aload_n dX12_appended_161 rfl ?_
  obtain ⟨g1, k⟩ := k
  refine w_getR dX12_appended_162 f_12_144 t_12_49 g1 ?_
  refine w_bipush dX12_appended_165 i2_10 ?_
  refine w_iconst dX12_appended_167 i1_4 ?_
  refine w_iload dX12_appended_168 rfl ?_
  refine w_imul dX12_appended_170 ?_
  refine w_iadd dX12_appended_171 ?_
  obtain ⟨g2, k⟩ := k
  obtain ⟨g3, k⟩ := k
  refine w_iaload dX12_appended_172 g2 g3 ?_
  refine w_ic_eq (pc' := 180) dX12_appended_173 rfl rfl ⟨fun c => ?_, fun c => ?_⟩
  · replace k := k.1 c
    refine w_iconst dX12_appended_180 i1_0 ?_
    refine w_istore (lo' := [some (.ref v0), some (.int v1), some (.float v2), some (.int v3), some (.int v4), some (.int v5), some (.int (0 : Int32)), some (.int v7), some (.int v8), u9]) dX12_appended_181 (ltQ rfl) rfl ?_
    refine w_iload dX12_appended_183 rfl ?_
    refine w_if_eq (pc' := 283) dX12_appended_185 rfl rfl ⟨fun c => ?_, fun c => ?_⟩
    · replace k := k.1 c
      refine w_iinc (lo' := [some (.ref v0), some (.int v1), some (.float v2), some (.int v3), some (.int v4), some (.int v5), some (.int (0 : Int32)), some (.int (v7 + (1 : Int32))), some (.int v8), u9]) dX12_appended_283 rfl i1_1 rfl ?_
      refine w_goto (pc' := 122) dX12_appended_286 rfl rfl ?_
      exact k
    · replace k := k.2 c
      refine w_bipush dX12_appended_188 i2_30 ?_
      refine w_iload_n dX12_appended_190 rfl ?_
      refine w_imul dX12_appended_191 ?_
      refine w_iload dX12_appended_192 rfl ?_
      refine w_iadd dX12_appended_194 ?_
      refine w_iconst dX12_appended_195 i1_1 ?_
      refine w_isub dX12_appended_196 ?_
      refine w_istore (lo' := [some (.ref v0), some (.int v1), some (.float v2), some (.int v3), some (.int v4), some (.int v5), some (.int (0 : Int32)), some (.int v7), some (.int v8), some (.int ((((30 : Int32) * v1) + v8) - (1 : Int32)))]) dX12_appended_197 (ltQ rfl) rfl ?_
      refine w_aload_n dX12_appended_199 rfl ?_
      refine w_getR dX12_appended_200 f_12_48 t_12_14 g1 ?_
      refine w_iload dX12_appended_203 rfl ?_
      refine w_aload_n dX12_appended_205 rfl ?_
      refine w_getR dX12_appended_206 f_12_144 t_12_49 g1 ?_
      refine w_bipush dX12_appended_209 i2_10 ?_
      refine w_iconst dX12_appended_211 i1_4 ?_
      refine w_iload dX12_appended_212 rfl ?_
      refine w_imul dX12_appended_214 ?_
      refine w_iadd dX12_appended_215 ?_
      refine w_iaload dX12_appended_216 g2 g3 ?_
      obtain ⟨g4, k⟩ := k
      obtain ⟨g5, k⟩ := k
      refine w_iastore dX12_appended_217 g4 g5 ?_
      refine w_aload_n dX12_appended_218 rfl ?_
      obtain ⟨g6, k⟩ := k
      refine w_getR dX12_appended_219 f_12_51 t_12_15 g6 ?_
      refine w_iload dX12_appended_222 rfl ?_
      exact k
  · replace k := k.2 c
    refine w_iconst dX12_appended_176 i1_1 ?_
    refine w_goto (pc' := 181) dX12_appended_177 rfl rfl ?_
    refine w_istore (lo' := [some (.ref v0), some (.int v1), some (.float v2), some (.int v3), some (.int v4), some (.int v5), some (.int (1 : Int32)), some (.int v7), some (.int v8), u9]) dX12_appended_181 (ltQ rfl) rfl ?_
    refine w_iload dX12_appended_183 rfl ?_
    refine w_if_eq (pc' := 283) dX12_appended_185 rfl rfl ⟨fun c => ?_, fun c => ?_⟩
    · replace k := k.1 c
      refine w_iinc (lo' := [some (.ref v0), some (.int v1), some (.float v2), some (.int v3), some (.int v4), some (.int v5), some (.int (1 : Int32)), some (.int (v7 + (1 : Int32))), some (.int v8), u9]) dX12_appended_283 rfl i1_1 rfl ?_
      refine w_goto (pc' := 122) dX12_appended_286 rfl rfl ?_
      exact k
    · replace k := k.2 c
      refine w_bipush dX12_appended_188 i2_30 ?_
      refine w_iload_n dX12_appended_190 rfl ?_
      refine w_imul dX12_appended_191 ?_
      refine w_iload dX12_appended_192 rfl ?_
      refine w_iadd dX12_appended_194 ?_
      refine w_iconst dX12_appended_195 i1_1 ?_
      refine w_isub dX12_appended_196 ?_
      refine w_istore (lo' := [some (.ref v0), some (.int v1), some (.float v2), some (.int v3), some (.int v4), some (.int v5), some (.int (1 : Int32)), some (.int v7), some (.int v8), some (.int ((((30 : Int32) * v1) + v8) - (1 : Int32)))]) dX12_appended_197 (ltQ rfl) rfl ?_
      refine w_aload_n dX12_appended_199 rfl ?_
      refine w_getR dX12_appended_200 f_12_48 t_12_14 g1 ?_
      refine w_iload dX12_appended_203 rfl ?_
      refine w_aload_n dX12_appended_205 rfl ?_
      refine w_getR dX12_appended_206 f_12_144 t_12_49 g1 ?_
      refine w_bipush dX12_appended_209 i2_10 ?_
      refine w_iconst dX12_appended_211 i1_4 ?_
      refine w_iload dX12_appended_212 rfl ?_
      refine w_imul dX12_appended_214 ?_
      refine w_iadd dX12_appended_215 ?_
      refine w_iaload dX12_appended_216 g2 g3 ?_
      obtain ⟨g7, k⟩ := k
      obtain ⟨g8, k⟩ := k
      refine w_iastore dX12_appended_217 g7 g8 ?_
      refine w_aload_n dX12_appended_218 rfl ?_
      obtain ⟨g9, k⟩ := k
      refine w_getR dX12_appended_219 f_12_51 t_12_15 g9 ?_
      refine w_iload dX12_appended_222 rfl ?_
      exact k
theorem bX12_appended_224 {d : Nat} {h : HP} {Q : Out → HP → Prop} {v0 : Nat} {v1 : Int32} {v2 : UInt32} {v3 : Int32} {v4 : Int32} {v5 : Int32} {v6 : Int32} {v7 : Int32} {v8 : Int32} {v9 : Int32} {s0 : Int32} {s1 : Nat} (k : (hK h v0 = 12) ∧ ((hK h (hR h 1249 v0) = 20) ∧ ((inA h (hR h 1249 v0) ((11 : Int32) + ((4 : Int32) * v7)) = true) ∧ ((hK h s1 = 20) ∧ ((inA h s1 s0 = true) ∧ ((hK (sAI h s1 (s0).toNatClampNeg (hAI h (hR h 1249 v0) (((11 : Int32) + ((4 : Int32) * v7))).toNatClampNeg)) v0 = 12) ∧ ((hK (sAI h s1 (s0).toNatClampNeg (hAI h (hR h 1249 v0) (((11 : Int32) + ((4 : Int32) * v7))).toNatClampNeg)) (hR (sAI h s1 (s0).toNatClampNeg (hAI h (hR h 1249 v0) (((11 : Int32) + ((4 : Int32) * v7))).toNatClampNeg)) 1249 v0) = 20) ∧ ((inA (sAI h s1 (s0).toNatClampNeg (hAI h (hR h 1249 v0) (((11 : Int32) + ((4 : Int32) * v7))).toNatClampNeg)) (hR (sAI h s1 (s0).toNatClampNeg (hAI h (hR h 1249 v0) (((11 : Int32) + ((4 : Int32) * v7))).toNatClampNeg)) 1249 v0) ((12 : Int32) + ((4 : Int32) * v7)) = true) ∧ (WP d mX12_appended 255 [some (.ref v0), some (.int v1), some (.float v2), some (.int v3), some (.int v4), some (.int v5), some (.int v6), some (.int v7), some (.int v8), some (.int v9)] [.int (hAI (sAI h s1 (s0).toNatClampNeg (hAI h (hR h 1249 v0) (((11 : Int32) + ((4 : Int32) * v7))).toNatClampNeg)) (hR (sAI h s1 (s0).toNatClampNeg (hAI h (hR h 1249 v0) (((11 : Int32) + ((4 : Int32) * v7))).toNatClampNeg)) 1249 v0) (((12 : Int32) + ((4 : Int32) * v7))).toNatClampNeg), .int v9, .ref (hR (sAI h s1 (s0).toNatClampNeg (hAI h (hR h 1249 v0) (((11 : Int32) + ((4 : Int32) * v7))).toNatClampNeg)) 1216 v0)] (sAI h s1 (s0).toNatClampNeg (hAI h (hR h 1249 v0) (((11 : Int32) + ((4 : Int32) * v7))).toNatClampNeg)) Q))))))))) : WP d mX12_appended 224 [some (.ref v0), some (.int v1), some (.float v2), some (.int v3), some (.int v4), some (.int v5), some (.int v6), some (.int v7), some (.int v8), some (.int v9)] [.int s0, .ref s1] h Q := by
  refine w_aload_n dX12_appended_224 rfl ?_
  obtain ⟨g1, k⟩ := k
  refine w_getR dX12_appended_225 f_12_144 t_12_49 g1 ?_
  refine w_bipush dX12_appended_228 i2_11 ?_
  refine w_iconst dX12_appended_230 i1_4 ?_
  refine w_iload dX12_appended_231 rfl ?_
  refine w_imul dX12_appended_233 ?_
  refine w_iadd dX12_appended_234 ?_
  obtain ⟨g2, k⟩ := k
  obtain ⟨g3, k⟩ := k
  refine w_iaload dX12_appended_235 g2 g3 ?_
  obtain ⟨g4, k⟩ := k
  obtain ⟨g5, k⟩ := k
  refine w_iastore dX12_appended_236 g4 g5 ?_
  refine w_aload_n dX12_appended_237 rfl ?_
  obtain ⟨g6, k⟩ := k
  refine w_getR dX12_appended_238 f_12_54 t_12_16 g6 ?_
  refine w_iload dX12_appended_241 rfl ?_
  refine w_aload_n dX12_appended_243 rfl ?_
  refine w_getR dX12_appended_244 f_12_144 t_12_49 g6 ?_
  refine w_bipush dX12_appended_247 i2_12 ?_
  refine w_iconst dX12_appended_249 i1_4 ?_
  refine w_iload dX12_appended_250 rfl ?_
  refine w_imul dX12_appended_252 ?_
  refine w_iadd dX12_appended_253 ?_
  obtain ⟨g7, k⟩ := k
  obtain ⟨g8, k⟩ := k
  refine w_iaload dX12_appended_254 g7 g8 ?_
  exact k
theorem bX12_appended_255 {d : Nat} {h : HP} {Q : Out → HP → Prop} {v0 : Nat} {v1 : Int32} {v2 : UInt32} {v3 : Int32} {v4 : Int32} {v5 : Int32} {v6 : Int32} {v7 : Int32} {v8 : Int32} {v9 : Int32} {s0 : Int32} {s1 : Int32} {s2 : Nat} (k : (hK h s2 = 20) ∧ ((inA h s2 s1 = true) ∧ ((hK (sAI h s2 (s1).toNatClampNeg s0) v0 = 12) ∧ ((hK (sAI h s2 (s1).toNatClampNeg s0) (hR (sAI h s2 (s1).toNatClampNeg s0) 1249 v0) = 20) ∧ ((inA (sAI h s2 (s1).toNatClampNeg s0) (hR (sAI h s2 (s1).toNatClampNeg s0) 1249 v0) ((13 : Int32) + ((4 : Int32) * v7)) = true) ∧ ((hK (sAI h s2 (s1).toNatClampNeg s0) (hR (sAI h s2 (s1).toNatClampNeg s0) 1217 v0) = 20) ∧ ((inA (sAI h s2 (s1).toNatClampNeg s0) (hR (sAI h s2 (s1).toNatClampNeg s0) 1217 v0) v9 = true) ∧ ((hK (sAI (sAI h s2 (s1).toNatClampNeg s0) (hR (sAI h s2 (s1).toNatClampNeg s0) 1217 v0) (v9).toNatClampNeg (hAI (sAI h s2 (s1).toNatClampNeg s0) (hR (sAI h s2 (s1).toNatClampNeg s0) 1249 v0) (((13 : Int32) + ((4 : Int32) * v7))).toNatClampNeg)) v0 = 12) ∧ (WP d mX12_appended 279 [some (.ref v0), some (.int v1), some (.float v2), some (.int v3), some (.int v4), some (.int v5), some (.int v6), some (.int v7), some (.int v8), some (.int v9)] [.ref (hR (sAI (sAI h s2 (s1).toNatClampNeg s0) (hR (sAI h s2 (s1).toNatClampNeg s0) 1217 v0) (v9).toNatClampNeg (hAI (sAI h s2 (s1).toNatClampNeg s0) (hR (sAI h s2 (s1).toNatClampNeg s0) 1249 v0) (((13 : Int32) + ((4 : Int32) * v7))).toNatClampNeg)) 1212 v0)] (sAI (sAI h s2 (s1).toNatClampNeg s0) (hR (sAI h s2 (s1).toNatClampNeg s0) 1217 v0) (v9).toNatClampNeg (hAI (sAI h s2 (s1).toNatClampNeg s0) (hR (sAI h s2 (s1).toNatClampNeg s0) 1249 v0) (((13 : Int32) + ((4 : Int32) * v7))).toNatClampNeg)) Q))))))))) : WP d mX12_appended 255 [some (.ref v0), some (.int v1), some (.float v2), some (.int v3), some (.int v4), some (.int v5), some (.int v6), some (.int v7), some (.int v8), some (.int v9)] [.int s0, .int s1, .ref s2] h Q := by
  obtain ⟨g1, k⟩ := k
  obtain ⟨g2, k⟩ := k
  refine w_iastore dX12_appended_255 g1 g2 ?_
  refine w_aload_n dX12_appended_256 rfl ?_
  obtain ⟨g3, k⟩ := k
  refine w_getR dX12_appended_257 f_12_57 t_12_17 g3 ?_
  refine w_iload dX12_appended_260 rfl ?_
  refine w_aload_n dX12_appended_262 rfl ?_
  refine w_getR dX12_appended_263 f_12_144 t_12_49 g3 ?_
  refine w_bipush dX12_appended_266 i2_13 ?_
  refine w_iconst dX12_appended_268 i1_4 ?_
  refine w_iload dX12_appended_269 rfl ?_
  refine w_imul dX12_appended_271 ?_
  refine w_iadd dX12_appended_272 ?_
  obtain ⟨g4, k⟩ := k
  obtain ⟨g5, k⟩ := k
  refine w_iaload dX12_appended_273 g4 g5 ?_
  obtain ⟨g6, k⟩ := k
  obtain ⟨g7, k⟩ := k
  refine w_iastore dX12_appended_274 g6 g7 ?_
  refine w_aload_n dX12_appended_275 rfl ?_
  obtain ⟨g8, k⟩ := k
  refine w_getR dX12_appended_276 f_12_42 t_12_12 g8 ?_
  exact k
theorem bX12_appended_279 {d : Nat} {h : HP} {Q : Out → HP → Prop} {v0 : Nat} {v1 : Int32} {v2 : UInt32} {v3 : Int32} {v4 : Int32} {v5 : Int32} {v6 : Int32} {v7 : Int32} {v8 : Int32} {v9 : Int32} {s0 : Nat} (k : (hK h s0 = 20) ∧ ((inA h s0 v1 = true) ∧ (WP d mX12_appended 122 [some (.ref v0), some (.int v1), some (.float v2), some (.int v3), some (.int v4), some (.int v5), some (.int v6), some (.int (v7 + (1 : Int32))), some (.int v8), some (.int v9)] [] (sAI h s0 (v1).toNatClampNeg v8) Q))) : WP d mX12_appended 279 [some (.ref v0), some (.int v1), some (.float v2), some (.int v3), some (.int v4), some (.int v5), some (.int v6), some (.int v7), some (.int v8), some (.int v9)] [.ref s0] h Q := by
  refine w_iload_n dX12_appended_279 rfl ?_
  refine w_iload dX12_appended_280 rfl ?_
  obtain ⟨g1, k⟩ := k
  obtain ⟨g2, k⟩ := k
  refine w_iastore dX12_appended_282 g1 g2 ?_
  refine w_iinc (lo' := [some (.ref v0), some (.int v1), some (.float v2), some (.int v3), some (.int v4), some (.int v5), some (.int v6), some (.int (v7 + (1 : Int32))), some (.int v8), some (.int v9)]) dX12_appended_283 rfl i1_1 rfl ?_
  refine w_goto (pc' := 122) dX12_appended_286 rfl rfl ?_
  exact k
theorem bX12_appended_360 {d : Nat} {h : HP} {Q : Out → HP → Prop} {v0 : Nat} {v1 : Int32} {v2 : UInt32} {v3 : Int32} {v4 : Int32} {v5 : Int32} {v6 : Int32} {v7 : Int32} {u8 : Option Value} {u9 : Option Value} {s0 : Nat} (k : (hK h v0 = 12) ∧ (WP d mX12_appended 365 [some (.ref v0), some (.int v1), some (.float v2), some (.int v3), some (.int v4), some (.int v5), some (.int v6), some (.int v7), u8, u9] [.ref (hR h 1207 v0), .int v1, .ref s0] h Q)) : WP d mX12_appended 360 [some (.ref v0), some (.int v1), some (.float v2), some (.int v3), some (.int v4), some (.int v5), some (.int v6), some (.int v7), u8, u9] [.ref s0] h Q := by
  refine w_iload_n dX12_appended_360 rfl ?_
  refine w_aload_n dX12_appended_361 rfl ?_
  obtain ⟨g1, k⟩ := k
  refine w_getR dX12_appended_362 f_12_25 t_12_7 g1 ?_
  exact k
theorem bX12_appended_365 {d : Nat} {h : HP} {Q : Out → HP → Prop} {v0 : Nat} {v1 : Int32} {v2 : UInt32} {v3 : Int32} {v4 : Int32} {v5 : Int32} {v6 : Int32} {v7 : Int32} {u8 : Option Value} {u9 : Option Value} {s0 : Nat} {s1 : Int32} {s2 : Nat} (k : (hK h s0 = 22) ∧ ((inA h s0 v1 = true) ∧ ((hK h v0 = 12) ∧ ((nn32 (FP.fadd (hAF h s0 (v1).toNatClampNeg) (hF h 1202 v0)) = true) ∧ ((hK h s2 = 22) ∧ ((inA h s2 s1 = true) ∧ ((1 < v0) ∧ ((hK (sAF h s2 (s1).toNatClampNeg (FP.fadd (hAF h s0 (v1).toNatClampNeg) (hF h 1202 v0))) v0 = 12) ∧ (WP d mX12_acks 0 [some (.ref v0), some (.int v1), some (.int v3), some (.int (1 : Int32)), some (.int (v4 + v5)), some (.float v2), none] [] (sAF h s2 (s1).toNatClampNeg (FP.fadd (hAF h s0 (v1).toNatClampNeg) (hF h 1202 v0))) (KK d mX12_appended mX12_acks 383 [some (.ref v0), some (.int v1), some (.float v2), some (.int v3), some (.int v4), some (.int v5), some (.int v6), some (.int v7), u8, u9] [] Q)))))))))) : WP (d + 1) mX12_appended 365 [some (.ref v0), some (.int v1), some (.float v2), some (.int v3), some (.int v4), some (.int v5), some (.int v6), some (.int v7), u8, u9] [.ref s0, .int s1, .ref s2] h Q := by
  refine w_iload_n dX12_appended_365 rfl ?_
  obtain ⟨g1, k⟩ := k
  obtain ⟨g2, k⟩ := k
  refine w_faload dX12_appended_366 g1 g2 ?_
  refine w_aload_n dX12_appended_367 rfl ?_
  obtain ⟨g3, k⟩ := k
  refine w_getF dX12_appended_368 f_12_14 t_12_2 g3 ?_
  obtain ⟨g4, k⟩ := k
  refine w_fadd dX12_appended_371 g4 ?_
  obtain ⟨g5, k⟩ := k
  obtain ⟨g6, k⟩ := k
  refine w_fastore dX12_appended_372 g5 g6 ?_
  refine w_aload_n dX12_appended_373 rfl ?_
  refine w_iload_n dX12_appended_374 rfl ?_
  refine w_iload_n dX12_appended_375 rfl ?_
  refine w_iconst dX12_appended_376 i1_1 ?_
  refine w_iload dX12_appended_377 rfl ?_
  refine w_iload dX12_appended_379 rfl ?_
  refine w_iadd dX12_appended_381 ?_
  refine w_fload_n dX12_appended_382 rfl ?_
  obtain ⟨g7, k⟩ := k
  obtain ⟨g8, k⟩ := k
  exact w_virt (as1 := [.float v2, .int (v4 + v5), .int (1 : Int32), .int v3, .int v1, .ref v0]) (as2 := [.ref v0, .int v1, .int v3, .int (1 : Int32), .int (v4 + v5), .float v2]) (rest := []) (lo2 := [some (.ref v0), some (.int v1), some (.int v3), some (.int (1 : Int32)), some (.int (v4 + v5)), some (.float v2), none]) dX12_appended_383 c_12_245 rfl rfl rfl (Nat.le_of_ble_eq_true rfl) (Nat.le_of_ble_eq_true rfl) rfl (Nat.le_of_ble_eq_true rfl) rfl rfl g7 g8 k
theorem bX12_appended_386 {d : Nat} {h : HP} {Q : Out → HP → Prop} {v0 : Nat} {v1 : Int32} {v2 : UInt32} {v3 : Int32} {v4 : Int32} {v5 : Int32} {v6 : Int32} {v7 : Int32} {u8 : Option Value} {u9 : Option Value} (k : Q (.inl none) h) : WP d mX12_appended 386 [some (.ref v0), some (.int v1), some (.float v2), some (.int v3), some (.int v4), some (.int v5), some (.int v6), some (.int v7), u8, u9] [] h Q := by
  exact w_return dX12_appended_386 rfl k
theorem bX12_rankedSame_0 {d : Nat} {h : HP} {Q : Out → HP → Prop} {v0 : Nat} {v1 : Int32} {v2 : Int32} {u3 : Option Value} {u4 : Option Value} {u5 : Option Value} {u6 : Option Value} (k : (hK h v0 = 12) ∧ ((hK h (hR h 1212 v0) = 20) ∧ ((inA h (hR h 1212 v0) v1 = true) ∧ (WP d mX12_rankedSame 10 [some (.ref v0), some (.int v1), some (.int v2), some (.int (0 : Int32)), some (.int (hAI h (hR h 1212 v0) (v1).toNatClampNeg)), u5, u6] [] h Q)))) : WP d mX12_rankedSame 0 [some (.ref v0), some (.int v1), some (.int v2), u3, u4, u5, u6] [] h Q := by
  refine w_iconst dX12_rankedSame_0 i1_0 ?_
  refine w_istore_n (lo' := [some (.ref v0), some (.int v1), some (.int v2), some (.int (0 : Int32)), u4, u5, u6]) dX12_rankedSame_1 (ltQ rfl) rfl ?_
  refine w_aload_n dX12_rankedSame_2 rfl ?_
  obtain ⟨g1, k⟩ := k
  refine w_getR dX12_rankedSame_3 f_12_42 t_12_12 g1 ?_
  refine w_iload_n dX12_rankedSame_6 rfl ?_
  obtain ⟨g2, k⟩ := k
  obtain ⟨g3, k⟩ := k
  refine w_iaload dX12_rankedSame_7 g2 g3 ?_
  refine w_istore (lo' := [some (.ref v0), some (.int v1), some (.int v2), some (.int (0 : Int32)), some (.int (hAI h (hR h 1212 v0) (v1).toNatClampNeg)), u5, u6]) dX12_rankedSame_8 (ltQ rfl) rfl ?_
  exact k
theorem bX12_rankedSame_10 {d : Nat} {h : HP} {Q : Out → HP → Prop} {v0 : Nat} {v1 : Int32} {v2 : Int32} {v3 : Int32} {v4 : Int32} {u5 : Option Value} {u6 : Option Value} (k : ((v4 ≤ 0) → Q (.inl (some (.int v3))) h) ∧ ((¬ (v4 ≤ 0)) → ((¬ v3 = 0) → Q (.inl (some (.int v3))) h) ∧ ((¬ (¬ v3 = 0)) → WP d mX12_rankedSame 25 [some (.ref v0), some (.int v1), some (.int v2), some (.int v3), some (.int v4), some (.int (0 : Int32)), some (.int (0 : Int32))] [] h Q))) : WP d mX12_rankedSame 10 [some (.ref v0), some (.int v1), some (.int v2), some (.int v3), some (.int v4), u5, u6] [] h Q := by
  refine w_iload dX12_rankedSame_10 rfl ?_
  refine w_if_le (pc' := 91) dX12_rankedSame_12 rfl rfl ⟨fun c => ?_, fun c => ?_⟩
  · replace k := k.1 c
    refine w_iload_n dX12_rankedSame_91 rfl ?_
    exact w_ireturn dX12_rankedSame_92 rfl k
  · replace k := k.2 c
    refine w_iload_n dX12_rankedSame_15 rfl ?_
    refine w_if_ne (pc' := 91) dX12_rankedSame_16 rfl rfl ⟨fun c => ?_, fun c => ?_⟩
    · replace k := k.1 c
      refine w_iload_n dX12_rankedSame_91 rfl ?_
      exact w_ireturn dX12_rankedSame_92 rfl k
    · replace k := k.2 c
      refine w_iconst dX12_rankedSame_19 i1_0 ?_
      refine w_istore (lo' := [some (.ref v0), some (.int v1), some (.int v2), some (.int v3), some (.int v4), some (.int (0 : Int32)), u6]) dX12_rankedSame_20 (ltQ rfl) rfl ?_
      refine w_iconst dX12_rankedSame_22 i1_0 ?_
      refine w_istore (lo' := [some (.ref v0), some (.int v1), some (.int v2), some (.int v3), some (.int v4), some (.int (0 : Int32)), some (.int (0 : Int32))]) dX12_rankedSame_23 (ltQ rfl) rfl ?_
      exact k
theorem bX12_rankedSame_25 {d : Nat} {h : HP} {Q : Out → HP → Prop} {v0 : Nat} {v1 : Int32} {v2 : Int32} {v3 : Int32} {v4 : Int32} {v5 : Int32} {v6 : Int32} (k : (hK h v0 = 12) ∧ ((((hI h 1200 v0) ≤ v6) → ((v5 < v2) → WP d mX12_rankedSame 10 [some (.ref v0), some (.int v1), some (.int v2), some (.int (0 : Int32)), some (.int (v4 + (-1 : Int32))), some (.int v5), some (.int v6)] [] h Q) ∧ ((¬ (v5 < v2)) → WP d mX12_rankedSame 10 [some (.ref v0), some (.int v1), some (.int v2), some (.int v4), some (.int (v4 + (-1 : Int32))), some (.int v5), some (.int v6)] [] h Q)) ∧ ((¬ ((hI h 1200 v0) ≤ v6)) → ((v6 = v1) → WP d mX12_rankedSame 25 [some (.ref v0), some (.int v1), some (.int v2), some (.int v3), some (.int v4), some (.int (v5 + (0 : Int32))), some (.int (v6 + (1 : Int32)))] [] h Q) ∧ ((¬ (v6 = v1)) → (hK h (hR h 1220 v0) = 20) ∧ ((inA h (hR h 1220 v0) (((5 : Int32) * v1) + v6) = true) ∧ ((((hAI h (hR h 1220 v0) ((((5 : Int32) * v1) + v6)).toNatClampNeg) < v4) → WP d mX12_rankedSame 25 [some (.ref v0), some (.int v1), some (.int v2), some (.int v3), some (.int v4), some (.int (v5 + (0 : Int32))), some (.int (v6 + (1 : Int32)))] [] h Q) ∧ ((¬ ((hAI h (hR h 1220 v0) ((((5 : Int32) * v1) + v6)).toNatClampNeg) < v4)) → WP d mX12_rankedSame 25 [some (.ref v0), some (.int v1), some (.int v2), some (.int v3), some (.int v4), some (.int (v5 + (1 : Int32))), some (.int (v6 + (1 : Int32)))] [] h Q))))))) : WP d mX12_rankedSame 25 [some (.ref v0), some (.int v1), some (.int v2), some (.int v3), some (.int v4), some (.int v5), some (.int v6)] [] h Q := by
  refine w_iload dX12_rankedSame_25 rfl ?_
  refine w_aload_n dX12_rankedSame_27 rfl ?_
  obtain ⟨g1, k⟩ := k
  refine w_getI dX12_rankedSame_28 f_12_7 t_12_0 g1 ?_
  refine w_ic_ge (pc' := 72) dX12_rankedSame_31 rfl rfl ⟨fun c => ?_, fun c => ?_⟩
  · replace k := k.1 c
    refine w_iload dX12_rankedSame_72 rfl ?_
    refine w_iload_n dX12_rankedSame_74 rfl ?_
    refine w_ic_lt (pc' := 83) dX12_rankedSame_75 rfl rfl ⟨fun c => ?_, fun c => ?_⟩
    · replace k := k.1 c
      refine w_iconst dX12_rankedSame_83 i1_0 ?_
      refine w_istore_n (lo' := [some (.ref v0), some (.int v1), some (.int v2), some (.int (0 : Int32)), some (.int v4), some (.int v5), some (.int v6)]) dX12_rankedSame_84 (ltQ rfl) rfl ?_
      refine w_iinc (lo' := [some (.ref v0), some (.int v1), some (.int v2), some (.int (0 : Int32)), some (.int (v4 + (-1 : Int32))), some (.int v5), some (.int v6)]) dX12_rankedSame_85 rfl i1_m1 rfl ?_
      refine w_goto (pc' := 10) dX12_rankedSame_88 rfl rfl ?_
      exact k
    · replace k := k.2 c
      refine w_iload dX12_rankedSame_78 rfl ?_
      refine w_goto (pc' := 84) dX12_rankedSame_80 rfl rfl ?_
      refine w_istore_n (lo' := [some (.ref v0), some (.int v1), some (.int v2), some (.int v4), some (.int v4), some (.int v5), some (.int v6)]) dX12_rankedSame_84 (ltQ rfl) rfl ?_
      refine w_iinc (lo' := [some (.ref v0), some (.int v1), some (.int v2), some (.int v4), some (.int (v4 + (-1 : Int32))), some (.int v5), some (.int v6)]) dX12_rankedSame_85 rfl i1_m1 rfl ?_
      refine w_goto (pc' := 10) dX12_rankedSame_88 rfl rfl ?_
      exact k
  · replace k := k.2 c
    refine w_iload dX12_rankedSame_34 rfl ?_
    refine w_iload dX12_rankedSame_36 rfl ?_
    refine w_iload_n dX12_rankedSame_38 rfl ?_
    refine w_ic_eq (pc' := 62) dX12_rankedSame_39 rfl rfl ⟨fun c => ?_, fun c => ?_⟩
    · replace k := k.1 c
      refine w_iconst dX12_rankedSame_62 i1_0 ?_
      refine w_iadd dX12_rankedSame_63 ?_
      refine w_istore (lo' := [some (.ref v0), some (.int v1), some (.int v2), some (.int v3), some (.int v4), some (.int (v5 + (0 : Int32))), some (.int v6)]) dX12_rankedSame_64 (ltQ rfl) rfl ?_
      refine w_iinc (lo' := [some (.ref v0), some (.int v1), some (.int v2), some (.int v3), some (.int v4), some (.int (v5 + (0 : Int32))), some (.int (v6 + (1 : Int32)))]) dX12_rankedSame_66 rfl i1_1 rfl ?_
      refine w_goto (pc' := 25) dX12_rankedSame_69 rfl rfl ?_
      exact k
    · replace k := k.2 c
      refine w_aload_n dX12_rankedSame_42 rfl ?_
      refine w_getR dX12_rankedSame_43 f_12_66 t_12_20 g1 ?_
      refine w_iconst dX12_rankedSame_46 i1_5 ?_
      refine w_iload_n dX12_rankedSame_47 rfl ?_
      refine w_imul dX12_rankedSame_48 ?_
      refine w_iload dX12_rankedSame_49 rfl ?_
      refine w_iadd dX12_rankedSame_51 ?_
      obtain ⟨g2, k⟩ := k
      obtain ⟨g3, k⟩ := k
      refine w_iaload dX12_rankedSame_52 g2 g3 ?_
      refine w_iload dX12_rankedSame_53 rfl ?_
      refine w_ic_lt (pc' := 62) dX12_rankedSame_55 rfl rfl ⟨fun c => ?_, fun c => ?_⟩
      · replace k := k.1 c
        refine w_iconst dX12_rankedSame_62 i1_0 ?_
        refine w_iadd dX12_rankedSame_63 ?_
        refine w_istore (lo' := [some (.ref v0), some (.int v1), some (.int v2), some (.int v3), some (.int v4), some (.int (v5 + (0 : Int32))), some (.int v6)]) dX12_rankedSame_64 (ltQ rfl) rfl ?_
        refine w_iinc (lo' := [some (.ref v0), some (.int v1), some (.int v2), some (.int v3), some (.int v4), some (.int (v5 + (0 : Int32))), some (.int (v6 + (1 : Int32)))]) dX12_rankedSame_66 rfl i1_1 rfl ?_
        refine w_goto (pc' := 25) dX12_rankedSame_69 rfl rfl ?_
        exact k
      · replace k := k.2 c
        refine w_iconst dX12_rankedSame_58 i1_1 ?_
        refine w_goto (pc' := 63) dX12_rankedSame_59 rfl rfl ?_
        refine w_iadd dX12_rankedSame_63 ?_
        refine w_istore (lo' := [some (.ref v0), some (.int v1), some (.int v2), some (.int v3), some (.int v4), some (.int (v5 + (1 : Int32))), some (.int v6)]) dX12_rankedSame_64 (ltQ rfl) rfl ?_
        refine w_iinc (lo' := [some (.ref v0), some (.int v1), some (.int v2), some (.int v3), some (.int v4), some (.int (v5 + (1 : Int32))), some (.int (v6 + (1 : Int32)))]) dX12_rankedSame_66 rfl i1_1 rfl ?_
        refine w_goto (pc' := 25) dX12_rankedSame_69 rfl rfl ?_
        exact k
theorem bX12_acknowledged_0 {d : Nat} {h : HP} {Q : Out → HP → Prop} {v0 : Nat} {v1 : Int32} {v2 : UInt32} {u3 : Option Value} {u4 : Option Value} (k : (hK h v0 = 12) ∧ ((hK h (hR h 1211 v0) = 20) ∧ ((inA h (hR h 1211 v0) v1 = true) ∧ (((¬ (hAI h (hR h 1211 v0) (v1).toNatClampNeg) = (2 : Int32)) → Q (.inl none) h) ∧ ((¬ (¬ (hAI h (hR h 1211 v0) (v1).toNatClampNeg) = (2 : Int32))) → (hK h (hR h 1249 v0) = 20) ∧ ((inA h (hR h 1249 v0) (3 : Int32) = true) ∧ ((hK h (hR h 1209 v0) = 20) ∧ ((inA h (hR h 1209 v0) v1 = true) ∧ ((((hAI h (hR h 1249 v0) ((3 : Int32)).toNatClampNeg) = (hAI h (hR h 1209 v0) (v1).toNatClampNeg)) → (inA h (hR h 1249 v0) (1 : Int32) = true) ∧ ((inA h (hR h 1249 v0) (7 : Int32) = true) ∧ (((¬ (hAI h (hR h 1249 v0) ((7 : Int32)).toNatClampNeg) = 0) → (inA h (hR h 1249 v0) (4 : Int32) = true) ∧ ((hK h (hR h 1220 v0) = 20) ∧ ((inA h (hR h 1220 v0) (((5 : Int32) * v1) + (hAI h (hR h 1249 v0) ((1 : Int32)).toNatClampNeg)) = true) ∧ ((((hAI h (hR h 1249 v0) ((4 : Int32)).toNatClampNeg) ≤ (hAI h (hR h 1220 v0) ((((5 : Int32) * v1) + (hAI h (hR h 1249 v0) ((1 : Int32)).toNatClampNeg))).toNatClampNeg)) → (1 < v0) ∧ (WP d mX12_most 0 [some (.ref v0)] [] h (KK d mX12_acknowledged mX12_most 102 [some (.ref v0), some (.int v1), some (.float v2), some (.int (((5 : Int32) * v1) + (hAI h (hR h 1249 v0) ((1 : Int32)).toNatClampNeg))), u4] [.int v1, .ref v0] Q))) ∧ ((¬ ((hAI h (hR h 1249 v0) ((4 : Int32)).toNatClampNeg) ≤ (hAI h (hR h 1220 v0) ((((5 : Int32) * v1) + (hAI h (hR h 1249 v0) ((1 : Int32)).toNatClampNeg))).toNatClampNeg))) → (hK (sAI h (hR h 1220 v0) ((((5 : Int32) * v1) + (hAI h (hR h 1249 v0) ((1 : Int32)).toNatClampNeg))).toNatClampNeg (hAI h (hR h 1249 v0) ((4 : Int32)).toNatClampNeg)) v0 = 12) ∧ (WP (d + 1) mX12_acknowledged 96 [some (.ref v0), some (.int v1), some (.float v2), some (.int (((5 : Int32) * v1) + (hAI h (hR h 1249 v0) ((1 : Int32)).toNatClampNeg))), u4] [.ref (hR (sAI h (hR h 1220 v0) ((((5 : Int32) * v1) + (hAI h (hR h 1249 v0) ((1 : Int32)).toNatClampNeg))).toNatClampNeg (hAI h (hR h 1249 v0) ((4 : Int32)).toNatClampNeg)) 1249 v0), .int (((5 : Int32) * v1) + (hAI h (hR h 1249 v0) ((1 : Int32)).toNatClampNeg)), .ref (hR (sAI h (hR h 1220 v0) ((((5 : Int32) * v1) + (hAI h (hR h 1249 v0) ((1 : Int32)).toNatClampNeg))).toNatClampNeg (hAI h (hR h 1249 v0) ((4 : Int32)).toNatClampNeg)) 1219 v0)] (sAI h (hR h 1220 v0) ((((5 : Int32) * v1) + (hAI h (hR h 1249 v0) ((1 : Int32)).toNatClampNeg))).toNatClampNeg (hAI h (hR h 1249 v0) ((4 : Int32)).toNatClampNeg)) Q)))))) ∧ ((¬ (¬ (hAI h (hR h 1249 v0) ((7 : Int32)).toNatClampNeg) = 0)) → (inA h (hR h 1249 v0) (4 : Int32) = true) ∧ ((hK h (hR h 1219 v0) = 20) ∧ ((inA h (hR h 1219 v0) (((5 : Int32) * v1) + (hAI h (hR h 1249 v0) ((1 : Int32)).toNatClampNeg)) = true) ∧ (Q (.inl none) (sAI h (hR h 1219 v0) ((((5 : Int32) * v1) + (hAI h (hR h 1249 v0) ((1 : Int32)).toNatClampNeg))).toNatClampNeg (hAI h (hR h 1249 v0) ((4 : Int32)).toNatClampNeg))))))))) ∧ ((¬ ((hAI h (hR h 1249 v0) ((3 : Int32)).toNatClampNeg) = (hAI h (hR h 1209 v0) (v1).toNatClampNeg))) → Q (.inl none) h)))))))))) : WP (d + 1) mX12_acknowledged 0 [some (.ref v0), some (.int v1), some (.float v2), u3, u4] [] h Q := by
  refine w_aload_n dX12_acknowledged_0 rfl ?_
  obtain ⟨g1, k⟩ := k
  refine w_getR dX12_acknowledged_1 f_12_39 t_12_11 g1 ?_
  refine w_iload_n dX12_acknowledged_4 rfl ?_
  obtain ⟨g2, k⟩ := k
  obtain ⟨g3, k⟩ := k
  refine w_iaload dX12_acknowledged_5 g2 g3 ?_
  refine w_iconst dX12_acknowledged_6 i1_2 ?_
  refine w_ic_ne (pc' := 25) dX12_acknowledged_7 rfl rfl ⟨fun c => ?_, fun c => ?_⟩
  · replace k := k.1 c
    exact w_return dX12_acknowledged_25 rfl k
  · replace k := k.2 c
    refine w_aload_n dX12_acknowledged_10 rfl ?_
    refine w_getR dX12_acknowledged_11 f_12_144 t_12_49 g1 ?_
    refine w_iconst dX12_acknowledged_14 i1_3 ?_
    obtain ⟨g4, k⟩ := k
    obtain ⟨g5, k⟩ := k
    refine w_iaload dX12_acknowledged_15 g4 g5 ?_
    refine w_aload_n dX12_acknowledged_16 rfl ?_
    refine w_getR dX12_acknowledged_17 f_12_32 t_12_9 g1 ?_
    refine w_iload_n dX12_acknowledged_20 rfl ?_
    obtain ⟨g6, k⟩ := k
    obtain ⟨g7, k⟩ := k
    refine w_iaload dX12_acknowledged_21 g6 g7 ?_
    refine w_ic_eq (pc' := 26) dX12_acknowledged_22 rfl rfl ⟨fun c => ?_, fun c => ?_⟩
    · replace k := k.1 c
      refine w_iconst dX12_acknowledged_26 i1_5 ?_
      refine w_iload_n dX12_acknowledged_27 rfl ?_
      refine w_imul dX12_acknowledged_28 ?_
      refine w_aload_n dX12_acknowledged_29 rfl ?_
      refine w_getR dX12_acknowledged_30 f_12_144 t_12_49 g1 ?_
      refine w_iconst dX12_acknowledged_33 i1_1 ?_
      obtain ⟨g8, k⟩ := k
      refine w_iaload dX12_acknowledged_34 g4 g8 ?_
      refine w_iadd dX12_acknowledged_35 ?_
      refine w_istore_n (lo' := [some (.ref v0), some (.int v1), some (.float v2), some (.int (((5 : Int32) * v1) + (hAI h (hR h 1249 v0) ((1 : Int32)).toNatClampNeg))), u4]) dX12_acknowledged_36 (ltQ rfl) rfl ?_
      refine w_aload_n dX12_acknowledged_37 rfl ?_
      refine w_getR dX12_acknowledged_38 f_12_144 t_12_49 g1 ?_
      refine w_bipush dX12_acknowledged_41 i2_7 ?_
      obtain ⟨g9, k⟩ := k
      refine w_iaload dX12_acknowledged_43 g4 g9 ?_
      refine w_if_ne (pc' := 60) dX12_acknowledged_44 rfl rfl ⟨fun c => ?_, fun c => ?_⟩
      · replace k := k.1 c
        refine w_aload_n dX12_acknowledged_60 rfl ?_
        refine w_getR dX12_acknowledged_61 f_12_144 t_12_49 g1 ?_
        refine w_iconst dX12_acknowledged_64 i1_4 ?_
        obtain ⟨g10, k⟩ := k
        refine w_iaload dX12_acknowledged_65 g4 g10 ?_
        refine w_aload_n dX12_acknowledged_66 rfl ?_
        refine w_getR dX12_acknowledged_67 f_12_66 t_12_20 g1 ?_
        refine w_iload_n dX12_acknowledged_70 rfl ?_
        obtain ⟨g11, k⟩ := k
        obtain ⟨g12, k⟩ := k
        refine w_iaload dX12_acknowledged_71 g11 g12 ?_
        refine w_ic_le (pc' := 99) dX12_acknowledged_72 rfl rfl ⟨fun c => ?_, fun c => ?_⟩
        · replace k := k.1 c
          refine w_aload_n dX12_acknowledged_99 rfl ?_
          refine w_iload_n dX12_acknowledged_100 rfl ?_
          refine w_aload_n dX12_acknowledged_101 rfl ?_
          obtain ⟨g13, k⟩ := k
          exact w_virt (as1 := [.ref v0]) (as2 := [.ref v0]) (rest := [.int v1, .ref v0]) (lo2 := [some (.ref v0)]) dX12_acknowledged_102 c_12_241 rfl rfl rfl (Nat.le_of_ble_eq_true rfl) (Nat.le_of_ble_eq_true rfl) rfl (Nat.le_of_ble_eq_true rfl) rfl rfl g13 g1 k
        · replace k := k.2 c
          refine w_aload_n dX12_acknowledged_75 rfl ?_
          refine w_getR dX12_acknowledged_76 f_12_66 t_12_20 g1 ?_
          refine w_iload_n dX12_acknowledged_79 rfl ?_
          refine w_aload_n dX12_acknowledged_80 rfl ?_
          refine w_getR dX12_acknowledged_81 f_12_144 t_12_49 g1 ?_
          refine w_iconst dX12_acknowledged_84 i1_4 ?_
          refine w_iaload dX12_acknowledged_85 g4 g10 ?_
          refine w_iastore dX12_acknowledged_86 g11 g12 ?_
          refine w_aload_n dX12_acknowledged_87 rfl ?_
          obtain ⟨g14, k⟩ := k
          refine w_getR dX12_acknowledged_88 f_12_63 t_12_19 g14 ?_
          refine w_iload_n dX12_acknowledged_91 rfl ?_
          refine w_aload_n dX12_acknowledged_92 rfl ?_
          refine w_getR dX12_acknowledged_93 f_12_144 t_12_49 g14 ?_
          exact k
      · replace k := k.2 c
        refine w_aload_n dX12_acknowledged_47 rfl ?_
        refine w_getR dX12_acknowledged_48 f_12_63 t_12_19 g1 ?_
        refine w_iload_n dX12_acknowledged_51 rfl ?_
        refine w_aload_n dX12_acknowledged_52 rfl ?_
        refine w_getR dX12_acknowledged_53 f_12_144 t_12_49 g1 ?_
        refine w_iconst dX12_acknowledged_56 i1_4 ?_
        obtain ⟨g15, k⟩ := k
        refine w_iaload dX12_acknowledged_57 g4 g15 ?_
        obtain ⟨g16, k⟩ := k
        obtain ⟨g17, k⟩ := k
        refine w_iastore dX12_acknowledged_58 g16 g17 ?_
        exact w_return dX12_acknowledged_59 rfl k
    · replace k := k.2 c
      exact w_return dX12_acknowledged_25 rfl k
theorem bX12_acknowledged_96 {d : Nat} {h : HP} {Q : Out → HP → Prop} {v0 : Nat} {v1 : Int32} {v2 : UInt32} {v3 : Int32} {u4 : Option Value} {s0 : Nat} {s1 : Int32} {s2 : Nat} (k : (hK h s0 = 20) ∧ ((inA h s0 (4 : Int32) = true) ∧ ((hK h s2 = 20) ∧ ((inA h s2 s1 = true) ∧ ((1 < v0) ∧ ((hK (sAI h s2 (s1).toNatClampNeg (hAI h s0 ((4 : Int32)).toNatClampNeg)) v0 = 12) ∧ (WP d mX12_most 0 [some (.ref v0)] [] (sAI h s2 (s1).toNatClampNeg (hAI h s0 ((4 : Int32)).toNatClampNeg)) (KK d mX12_acknowledged mX12_most 102 [some (.ref v0), some (.int v1), some (.float v2), some (.int v3), u4] [.int v1, .ref v0] Q)))))))) : WP (d + 1) mX12_acknowledged 96 [some (.ref v0), some (.int v1), some (.float v2), some (.int v3), u4] [.ref s0, .int s1, .ref s2] h Q := by
  refine w_iconst dX12_acknowledged_96 i1_4 ?_
  obtain ⟨g1, k⟩ := k
  obtain ⟨g2, k⟩ := k
  refine w_iaload dX12_acknowledged_97 g1 g2 ?_
  obtain ⟨g3, k⟩ := k
  obtain ⟨g4, k⟩ := k
  refine w_iastore dX12_acknowledged_98 g3 g4 ?_
  refine w_aload_n dX12_acknowledged_99 rfl ?_
  refine w_iload_n dX12_acknowledged_100 rfl ?_
  refine w_aload_n dX12_acknowledged_101 rfl ?_
  obtain ⟨g5, k⟩ := k
  obtain ⟨g6, k⟩ := k
  exact w_virt (as1 := [.ref v0]) (as2 := [.ref v0]) (rest := [.int v1, .ref v0]) (lo2 := [some (.ref v0)]) dX12_acknowledged_102 c_12_241 rfl rfl rfl (Nat.le_of_ble_eq_true rfl) (Nat.le_of_ble_eq_true rfl) rfl (Nat.le_of_ble_eq_true rfl) rfl rfl g5 g6 k
theorem bX12_acknowledged_105 {d : Nat} {h : HP} {Q : Out → HP → Prop} {v0 : Nat} {v1 : Int32} {v2 : UInt32} {v3 : Int32} {u4 : Option Value} {s0 : Int32} {s1 : Int32} {s2 : Nat} (k : (1 < s2) ∧ ((hK h s2 = 12) ∧ (WP d mX12_rankedSame 0 [some (.ref s2), some (.int s1), some (.int (s0 - (1 : Int32))), none, none, none, none] [] h (KK d mX12_acknowledged mX12_rankedSame 107 [some (.ref v0), some (.int v1), some (.float v2), some (.int v3), u4] [] Q)))) : WP (d + 1) mX12_acknowledged 105 [some (.ref v0), some (.int v1), some (.float v2), some (.int v3), u4] [.int s0, .int s1, .ref s2] h Q := by
  refine w_iconst dX12_acknowledged_105 i1_1 ?_
  refine w_isub dX12_acknowledged_106 ?_
  obtain ⟨g1, k⟩ := k
  obtain ⟨g2, k⟩ := k
  exact w_virt (as1 := [.int (s0 - (1 : Int32)), .int s1, .ref s2]) (as2 := [.ref s2, .int s1, .int (s0 - (1 : Int32))]) (rest := []) (lo2 := [some (.ref s2), some (.int s1), some (.int (s0 - (1 : Int32))), none, none, none, none]) dX12_acknowledged_107 c_12_249 rfl rfl rfl (Nat.le_of_ble_eq_true rfl) (Nat.le_of_ble_eq_true rfl) rfl (Nat.le_of_ble_eq_true rfl) rfl rfl g1 g2 k
theorem bX12_acknowledged_110 {d : Nat} {h : HP} {Q : Out → HP → Prop} {v0 : Nat} {v1 : Int32} {v2 : UInt32} {v3 : Int32} {u4 : Option Value} {s0 : Int32} (k : (hK h v0 = 12) ∧ ((hK h (hR h 1213 v0) = 20) ∧ ((inA h (hR h 1213 v0) v1 = true) ∧ (((s0 ≤ (hAI h (hR h 1213 v0) (v1).toNatClampNeg)) → (hK h (hR h 1221 v0) = 21) ∧ ((inA h (hR h 1221 v0) v3 = true) ∧ ((((hAI h (hR h 1221 v0) (v3).toNatClampNeg) = 0) → (hK h (hR h 1222 v0) = 22) ∧ ((inA h (hR h 1222 v0) v3 = true) ∧ ((hK (sAF h (hR h 1222 v0) (v3).toNatClampNeg v2) v0 = 12) ∧ (WP (d + 1) mX12_acknowledged 187 [some (.ref v0), some (.int v1), some (.float v2), some (.int v3), some (.int s0)] [.ref (hR (sAF h (hR h 1222 v0) (v3).toNatClampNeg v2) 1221 v0)] (sAF h (hR h 1222 v0) (v3).toNatClampNeg v2) Q)))) ∧ ((¬ ((hAI h (hR h 1221 v0) (v3).toNatClampNeg) = 0)) → (hK h (hR h 1222 v0) = 22) ∧ ((inA h (hR h 1222 v0) v3 = true) ∧ ((((Op.cmpValue (FP.fcmp (hAF h (hR h 1222 v0) (v3).toNatClampNeg) v2) .l) ≤ 0) → (hK (sAF h (hR h 1222 v0) (v3).toNatClampNeg v2) v0 = 12) ∧ (WP (d + 1) mX12_acknowledged 187 [some (.ref v0), some (.int v1), some (.float v2), some (.int v3), some (.int s0)] [.ref (hR (sAF h (hR h 1222 v0) (v3).toNatClampNeg v2) 1221 v0)] (sAF h (hR h 1222 v0) (v3).toNatClampNeg v2) Q)) ∧ ((¬ ((Op.cmpValue (FP.fcmp (hAF h (hR h 1222 v0) (v3).toNatClampNeg) v2) .l) ≤ 0)) → (hK (sAF h (hR h 1222 v0) (v3).toNatClampNeg (hAF h (hR h 1222 v0) (v3).toNatClampNeg)) v0 = 12) ∧ (WP (d + 1) mX12_acknowledged 187 [some (.ref v0), some (.int v1), some (.float v2), some (.int v3), some (.int s0)] [.ref (hR (sAF h (hR h 1222 v0) (v3).toNatClampNeg (hAF h (hR h 1222 v0) (v3).toNatClampNeg)) 1221 v0)] (sAF h (hR h 1222 v0) (v3).toNatClampNeg (hAF h (hR h 1222 v0) (v3).toNatClampNeg)) Q)))))))) ∧ ((¬ (s0 ≤ (hAI h (hR h 1213 v0) (v1).toNatClampNeg))) → (1 < v0) ∧ (WP d mX12_termAt 0 [some (.ref v0), some (.int v1), some (.int s0)] [] h (KK d mX12_acknowledged mX12_termAt 127 [some (.ref v0), some (.int v1), some (.float v2), some (.int v3), some (.int s0)] [] Q))))))) : WP (d + 1) mX12_acknowledged 110 [some (.ref v0), some (.int v1), some (.float v2), some (.int v3), u4] [.int s0] h Q := by
  refine w_istore (lo' := [some (.ref v0), some (.int v1), some (.float v2), some (.int v3), some (.int s0)]) dX12_acknowledged_110 (ltQ rfl) rfl ?_
  refine w_iload dX12_acknowledged_112 rfl ?_
  refine w_aload_n dX12_acknowledged_114 rfl ?_
  obtain ⟨g1, k⟩ := k
  refine w_getR dX12_acknowledged_115 f_12_45 t_12_13 g1 ?_
  refine w_iload_n dX12_acknowledged_118 rfl ?_
  obtain ⟨g2, k⟩ := k
  obtain ⟨g3, k⟩ := k
  refine w_iaload dX12_acknowledged_119 g2 g3 ?_
  refine w_ic_le (pc' := 147) dX12_acknowledged_120 rfl rfl ⟨fun c => ?_, fun c => ?_⟩
  · replace k := k.1 c
    refine w_aload_n dX12_acknowledged_147 rfl ?_
    refine w_getR dX12_acknowledged_148 f_12_72 t_12_22 g1 ?_
    refine w_iload_n dX12_acknowledged_151 rfl ?_
    refine w_aload_n dX12_acknowledged_152 rfl ?_
    refine w_getR dX12_acknowledged_153 f_12_69 t_12_21 g1 ?_
    refine w_iload_n dX12_acknowledged_156 rfl ?_
    obtain ⟨g4, k⟩ := k
    obtain ⟨g5, k⟩ := k
    refine w_baload dX12_acknowledged_157 g4 g5 ?_
    refine w_if_eq (pc' := 181) dX12_acknowledged_158 rfl rfl ⟨fun c => ?_, fun c => ?_⟩
    · replace k := k.1 c
      refine w_fload_n dX12_acknowledged_181 rfl ?_
      obtain ⟨g6, k⟩ := k
      obtain ⟨g7, k⟩ := k
      refine w_fastore dX12_acknowledged_182 g6 g7 ?_
      refine w_aload_n dX12_acknowledged_183 rfl ?_
      obtain ⟨g8, k⟩ := k
      refine w_getR dX12_acknowledged_184 f_12_69 t_12_21 g8 ?_
      exact k
    · replace k := k.2 c
      refine w_aload_n dX12_acknowledged_161 rfl ?_
      refine w_getR dX12_acknowledged_162 f_12_72 t_12_22 g1 ?_
      refine w_iload_n dX12_acknowledged_165 rfl ?_
      obtain ⟨g9, k⟩ := k
      obtain ⟨g10, k⟩ := k
      refine w_faload dX12_acknowledged_166 g9 g10 ?_
      refine w_fload_n dX12_acknowledged_167 rfl ?_
      refine w_fcmp dX12_acknowledged_168 ?_
      refine w_if_le (pc' := 181) dX12_acknowledged_169 rfl rfl ⟨fun c => ?_, fun c => ?_⟩
      · replace k := k.1 c
        refine w_fload_n dX12_acknowledged_181 rfl ?_
        refine w_fastore dX12_acknowledged_182 g9 g10 ?_
        refine w_aload_n dX12_acknowledged_183 rfl ?_
        obtain ⟨g11, k⟩ := k
        refine w_getR dX12_acknowledged_184 f_12_69 t_12_21 g11 ?_
        exact k
      · replace k := k.2 c
        refine w_aload_n dX12_acknowledged_172 rfl ?_
        refine w_getR dX12_acknowledged_173 f_12_72 t_12_22 g1 ?_
        refine w_iload_n dX12_acknowledged_176 rfl ?_
        refine w_faload dX12_acknowledged_177 g9 g10 ?_
        refine w_goto (pc' := 182) dX12_acknowledged_178 rfl rfl ?_
        refine w_fastore dX12_acknowledged_182 g9 g10 ?_
        refine w_aload_n dX12_acknowledged_183 rfl ?_
        obtain ⟨g12, k⟩ := k
        refine w_getR dX12_acknowledged_184 f_12_69 t_12_21 g12 ?_
        exact k
  · replace k := k.2 c
    refine w_aload_n dX12_acknowledged_123 rfl ?_
    refine w_iload_n dX12_acknowledged_124 rfl ?_
    refine w_iload dX12_acknowledged_125 rfl ?_
    obtain ⟨g13, k⟩ := k
    exact w_virt (as1 := [.int s0, .int v1, .ref v0]) (as2 := [.ref v0, .int v1, .int s0]) (rest := []) (lo2 := [some (.ref v0), some (.int v1), some (.int s0)]) dX12_acknowledged_127 c_12_233 rfl rfl rfl (Nat.le_of_ble_eq_true rfl) (Nat.le_of_ble_eq_true rfl) rfl (Nat.le_of_ble_eq_true rfl) rfl rfl g13 g1 k
theorem bX12_acknowledged_130 {d : Nat} {h : HP} {Q : Out → HP → Prop} {v0 : Nat} {v1 : Int32} {v2 : UInt32} {v3 : Int32} {v4 : Int32} {s0 : Int32} (k : (hK h v0 = 12) ∧ ((hK h (hR h 1209 v0) = 20) ∧ ((inA h (hR h 1209 v0) v1 = true) ∧ (((¬ s0 = (hAI h (hR h 1209 v0) (v1).toNatClampNeg)) → (hK h (hR h 1221 v0) = 21) ∧ ((inA h (hR h 1221 v0) v3 = true) ∧ ((((hAI h (hR h 1221 v0) (v3).toNatClampNeg) = 0) → (hK h (hR h 1222 v0) = 22) ∧ ((inA h (hR h 1222 v0) v3 = true) ∧ ((hK (sAF h (hR h 1222 v0) (v3).toNatClampNeg v2) v0 = 12) ∧ (WP d mX12_acknowledged 187 [some (.ref v0), some (.int v1), some (.float v2), some (.int v3), some (.int v4)] [.ref (hR (sAF h (hR h 1222 v0) (v3).toNatClampNeg v2) 1221 v0)] (sAF h (hR h 1222 v0) (v3).toNatClampNeg v2) Q)))) ∧ ((¬ ((hAI h (hR h 1221 v0) (v3).toNatClampNeg) = 0)) → (hK h (hR h 1222 v0) = 22) ∧ ((inA h (hR h 1222 v0) v3 = true) ∧ ((((Op.cmpValue (FP.fcmp (hAF h (hR h 1222 v0) (v3).toNatClampNeg) v2) .l) ≤ 0) → (hK (sAF h (hR h 1222 v0) (v3).toNatClampNeg v2) v0 = 12) ∧ (WP d mX12_acknowledged 187 [some (.ref v0), some (.int v1), some (.float v2), some (.int v3), some (.int v4)] [.ref (hR (sAF h (hR h 1222 v0) (v3).toNatClampNeg v2) 1221 v0)] (sAF h (hR h 1222 v0) (v3).toNatClampNeg v2) Q)) ∧ ((¬ ((Op.cmpValue (FP.fcmp (hAF h (hR h 1222 v0) (v3).toNatClampNeg) v2) .l) ≤ 0)) → (hK (sAF h (hR h 1222 v0) (v3).toNatClampNeg (hAF h (hR h 1222 v0) (v3).toNatClampNeg)) v0 = 12) ∧ (WP d mX12_acknowledged 187 [some (.ref v0), some (.int v1), some (.float v2), some (.int v3), some (.int v4)] [.ref (hR (sAF h (hR h 1222 v0) (v3).toNatClampNeg (hAF h (hR h 1222 v0) (v3).toNatClampNeg)) 1221 v0)] (sAF h (hR h 1222 v0) (v3).toNatClampNeg (hAF h (hR h 1222 v0) (v3).toNatClampNeg)) Q)))))))) ∧ ((¬ (¬ s0 = (hAI h (hR h 1209 v0) (v1).toNatClampNeg))) → (hK h (hR h 1213 v0) = 20) ∧ ((inA h (hR h 1213 v0) v1 = true) ∧ ((hK (sAI h (hR h 1213 v0) (v1).toNatClampNeg v4) v0 = 12) ∧ ((hK (sAI h (hR h 1213 v0) (v1).toNatClampNeg v4) (hR (sAI h (hR h 1213 v0) (v1).toNatClampNeg v4) 1221 v0) = 21) ∧ ((inA (sAI h (hR h 1213 v0) (v1).toNatClampNeg v4) (hR (sAI h (hR h 1213 v0) (v1).toNatClampNeg v4) 1221 v0) v3 = true) ∧ ((((hAI (sAI h (hR h 1213 v0) (v1).toNatClampNeg v4) (hR (sAI h (hR h 1213 v0) (v1).toNatClampNeg v4) 1221 v0) (v3).toNatClampNeg) = 0) → (hK (sAI h (hR h 1213 v0) (v1).toNatClampNeg v4) (hR (sAI h (hR h 1213 v0) (v1).toNatClampNeg v4) 1222 v0) = 22) ∧ ((inA (sAI h (hR h 1213 v0) (v1).toNatClampNeg v4) (hR (sAI h (hR h 1213 v0) (v1).toNatClampNeg v4) 1222 v0) v3 = true) ∧ ((hK (sAF (sAI h (hR h 1213 v0) (v1).toNatClampNeg v4) (hR (sAI h (hR h 1213 v0) (v1).toNatClampNeg v4) 1222 v0) (v3).toNatClampNeg v2) v0 = 12) ∧ (WP d mX12_acknowledged 187 [some (.ref v0), some (.int v1), some (.float v2), some (.int v3), some (.int v4)] [.ref (hR (sAF (sAI h (hR h 1213 v0) (v1).toNatClampNeg v4) (hR (sAI h (hR h 1213 v0) (v1).toNatClampNeg v4) 1222 v0) (v3).toNatClampNeg v2) 1221 v0)] (sAF (sAI h (hR h 1213 v0) (v1).toNatClampNeg v4) (hR (sAI h (hR h 1213 v0) (v1).toNatClampNeg v4) 1222 v0) (v3).toNatClampNeg v2) Q)))) ∧ ((¬ ((hAI (sAI h (hR h 1213 v0) (v1).toNatClampNeg v4) (hR (sAI h (hR h 1213 v0) (v1).toNatClampNeg v4) 1221 v0) (v3).toNatClampNeg) = 0)) → (hK (sAI h (hR h 1213 v0) (v1).toNatClampNeg v4) (hR (sAI h (hR h 1213 v0) (v1).toNatClampNeg v4) 1222 v0) = 22) ∧ ((inA (sAI h (hR h 1213 v0) (v1).toNatClampNeg v4) (hR (sAI h (hR h 1213 v0) (v1).toNatClampNeg v4) 1222 v0) v3 = true) ∧ ((((Op.cmpValue (FP.fcmp (hAF (sAI h (hR h 1213 v0) (v1).toNatClampNeg v4) (hR (sAI h (hR h 1213 v0) (v1).toNatClampNeg v4) 1222 v0) (v3).toNatClampNeg) v2) .l) ≤ 0) → (hK (sAF (sAI h (hR h 1213 v0) (v1).toNatClampNeg v4) (hR (sAI h (hR h 1213 v0) (v1).toNatClampNeg v4) 1222 v0) (v3).toNatClampNeg v2) v0 = 12) ∧ (WP d mX12_acknowledged 187 [some (.ref v0), some (.int v1), some (.float v2), some (.int v3), some (.int v4)] [.ref (hR (sAF (sAI h (hR h 1213 v0) (v1).toNatClampNeg v4) (hR (sAI h (hR h 1213 v0) (v1).toNatClampNeg v4) 1222 v0) (v3).toNatClampNeg v2) 1221 v0)] (sAF (sAI h (hR h 1213 v0) (v1).toNatClampNeg v4) (hR (sAI h (hR h 1213 v0) (v1).toNatClampNeg v4) 1222 v0) (v3).toNatClampNeg v2) Q)) ∧ ((¬ ((Op.cmpValue (FP.fcmp (hAF (sAI h (hR h 1213 v0) (v1).toNatClampNeg v4) (hR (sAI h (hR h 1213 v0) (v1).toNatClampNeg v4) 1222 v0) (v3).toNatClampNeg) v2) .l) ≤ 0)) → (hK (sAF (sAI h (hR h 1213 v0) (v1).toNatClampNeg v4) (hR (sAI h (hR h 1213 v0) (v1).toNatClampNeg v4) 1222 v0) (v3).toNatClampNeg (hAF (sAI h (hR h 1213 v0) (v1).toNatClampNeg v4) (hR (sAI h (hR h 1213 v0) (v1).toNatClampNeg v4) 1222 v0) (v3).toNatClampNeg)) v0 = 12) ∧ (WP d mX12_acknowledged 187 [some (.ref v0), some (.int v1), some (.float v2), some (.int v3), some (.int v4)] [.ref (hR (sAF (sAI h (hR h 1213 v0) (v1).toNatClampNeg v4) (hR (sAI h (hR h 1213 v0) (v1).toNatClampNeg v4) 1222 v0) (v3).toNatClampNeg (hAF (sAI h (hR h 1213 v0) (v1).toNatClampNeg v4) (hR (sAI h (hR h 1213 v0) (v1).toNatClampNeg v4) 1222 v0) (v3).toNatClampNeg)) 1221 v0)] (sAF (sAI h (hR h 1213 v0) (v1).toNatClampNeg v4) (hR (sAI h (hR h 1213 v0) (v1).toNatClampNeg v4) 1222 v0) (v3).toNatClampNeg (hAF (sAI h (hR h 1213 v0) (v1).toNatClampNeg v4) (hR (sAI h (hR h 1213 v0) (v1).toNatClampNeg v4) 1222 v0) (v3).toNatClampNeg)) Q))))))))))))))) : WP d mX12_acknowledged 130 [some (.ref v0), some (.int v1), some (.float v2), some (.int v3), some (.int v4)] [.int s0] h Q := by
  refine w_aload_n dX12_acknowledged_130 rfl ?_
  obtain ⟨g1, k⟩ := k
  refine w_getR dX12_acknowledged_131 f_12_32 t_12_9 g1 ?_
  refine w_iload_n dX12_acknowledged_134 rfl ?_
  obtain ⟨g2, k⟩ := k
  obtain ⟨g3, k⟩ := k
  refine w_iaload dX12_acknowledged_135 g2 g3 ?_
  refine w_ic_ne (pc' := 147) dX12_acknowledged_136 rfl rfl ⟨fun c => ?_, fun c => ?_⟩
  · replace k := k.1 c
    refine w_aload_n dX12_acknowledged_147 rfl ?_
    refine w_getR dX12_acknowledged_148 f_12_72 t_12_22 g1 ?_
    refine w_iload_n dX12_acknowledged_151 rfl ?_
    refine w_aload_n dX12_acknowledged_152 rfl ?_
    refine w_getR dX12_acknowledged_153 f_12_69 t_12_21 g1 ?_
    refine w_iload_n dX12_acknowledged_156 rfl ?_
    obtain ⟨g4, k⟩ := k
    obtain ⟨g5, k⟩ := k
    refine w_baload dX12_acknowledged_157 g4 g5 ?_
    refine w_if_eq (pc' := 181) dX12_acknowledged_158 rfl rfl ⟨fun c => ?_, fun c => ?_⟩
    · replace k := k.1 c
      refine w_fload_n dX12_acknowledged_181 rfl ?_
      obtain ⟨g6, k⟩ := k
      obtain ⟨g7, k⟩ := k
      refine w_fastore dX12_acknowledged_182 g6 g7 ?_
      refine w_aload_n dX12_acknowledged_183 rfl ?_
      obtain ⟨g8, k⟩ := k
      refine w_getR dX12_acknowledged_184 f_12_69 t_12_21 g8 ?_
      exact k
    · replace k := k.2 c
      refine w_aload_n dX12_acknowledged_161 rfl ?_
      refine w_getR dX12_acknowledged_162 f_12_72 t_12_22 g1 ?_
      refine w_iload_n dX12_acknowledged_165 rfl ?_
      obtain ⟨g9, k⟩ := k
      obtain ⟨g10, k⟩ := k
      refine w_faload dX12_acknowledged_166 g9 g10 ?_
      refine w_fload_n dX12_acknowledged_167 rfl ?_
      refine w_fcmp dX12_acknowledged_168 ?_
      refine w_if_le (pc' := 181) dX12_acknowledged_169 rfl rfl ⟨fun c => ?_, fun c => ?_⟩
      · replace k := k.1 c
        refine w_fload_n dX12_acknowledged_181 rfl ?_
        refine w_fastore dX12_acknowledged_182 g9 g10 ?_
        refine w_aload_n dX12_acknowledged_183 rfl ?_
        obtain ⟨g11, k⟩ := k
        refine w_getR dX12_acknowledged_184 f_12_69 t_12_21 g11 ?_
        exact k
      · replace k := k.2 c
        refine w_aload_n dX12_acknowledged_172 rfl ?_
        refine w_getR dX12_acknowledged_173 f_12_72 t_12_22 g1 ?_
        refine w_iload_n dX12_acknowledged_176 rfl ?_
        refine w_faload dX12_acknowledged_177 g9 g10 ?_
        refine w_goto (pc' := 182) dX12_acknowledged_178 rfl rfl ?_
        refine w_fastore dX12_acknowledged_182 g9 g10 ?_
        refine w_aload_n dX12_acknowledged_183 rfl ?_
        obtain ⟨g12, k⟩ := k
        refine w_getR dX12_acknowledged_184 f_12_69 t_12_21 g12 ?_
        exact k
  · replace k := k.2 c
    refine w_aload_n dX12_acknowledged_139 rfl ?_
    refine w_getR dX12_acknowledged_140 f_12_45 t_12_13 g1 ?_
    refine w_iload_n dX12_acknowledged_143 rfl ?_
    refine w_iload dX12_acknowledged_144 rfl ?_
    obtain ⟨g13, k⟩ := k
    obtain ⟨g14, k⟩ := k
    refine w_iastore dX12_acknowledged_146 g13 g14 ?_
    refine w_aload_n dX12_acknowledged_147 rfl ?_
    obtain ⟨g15, k⟩ := k
    refine w_getR dX12_acknowledged_148 f_12_72 t_12_22 g15 ?_
    refine w_iload_n dX12_acknowledged_151 rfl ?_
    refine w_aload_n dX12_acknowledged_152 rfl ?_
    refine w_getR dX12_acknowledged_153 f_12_69 t_12_21 g15 ?_
    refine w_iload_n dX12_acknowledged_156 rfl ?_
    obtain ⟨g16, k⟩ := k
    obtain ⟨g17, k⟩ := k
    refine w_baload dX12_acknowledged_157 g16 g17 ?_
    refine w_if_eq (pc' := 181) dX12_acknowledged_158 rfl rfl ⟨fun c => ?_, fun c => ?_⟩
    · replace k := k.1 c
      refine w_fload_n dX12_acknowledged_181 rfl ?_
      obtain ⟨g18, k⟩ := k
      obtain ⟨g19, k⟩ := k
      refine w_fastore dX12_acknowledged_182 g18 g19 ?_
      refine w_aload_n dX12_acknowledged_183 rfl ?_
      obtain ⟨g20, k⟩ := k
      refine w_getR dX12_acknowledged_184 f_12_69 t_12_21 g20 ?_
      exact k
    · replace k := k.2 c
      refine w_aload_n dX12_acknowledged_161 rfl ?_
      refine w_getR dX12_acknowledged_162 f_12_72 t_12_22 g15 ?_
      refine w_iload_n dX12_acknowledged_165 rfl ?_
      obtain ⟨g21, k⟩ := k
      obtain ⟨g22, k⟩ := k
      refine w_faload dX12_acknowledged_166 g21 g22 ?_
      refine w_fload_n dX12_acknowledged_167 rfl ?_
      refine w_fcmp dX12_acknowledged_168 ?_
      refine w_if_le (pc' := 181) dX12_acknowledged_169 rfl rfl ⟨fun c => ?_, fun c => ?_⟩
      · replace k := k.1 c
        refine w_fload_n dX12_acknowledged_181 rfl ?_
        refine w_fastore dX12_acknowledged_182 g21 g22 ?_
        refine w_aload_n dX12_acknowledged_183 rfl ?_
        obtain ⟨g23, k⟩ := k
        refine w_getR dX12_acknowledged_184 f_12_69 t_12_21 g23 ?_
        exact k
      · replace k := k.2 c
        refine w_aload_n dX12_acknowledged_172 rfl ?_
        refine w_getR dX12_acknowledged_173 f_12_72 t_12_22 g15 ?_
        refine w_iload_n dX12_acknowledged_176 rfl ?_
        refine w_faload dX12_acknowledged_177 g21 g22 ?_
        refine w_goto (pc' := 182) dX12_acknowledged_178 rfl rfl ?_
        refine w_fastore dX12_acknowledged_182 g21 g22 ?_
        refine w_aload_n dX12_acknowledged_183 rfl ?_
        obtain ⟨g24, k⟩ := k
        refine w_getR dX12_acknowledged_184 f_12_69 t_12_21 g24 ?_
        exact k
theorem bX12_acknowledged_187 {d : Nat} {h : HP} {Q : Out → HP → Prop} {v0 : Nat} {v1 : Int32} {v2 : UInt32} {v3 : Int32} {v4 : Int32} {s0 : Nat} (k : (hK h s0 = 21) ∧ ((inA h s0 v3 = true) ∧ ((1 < v0) ∧ ((hK (sAI h s0 (v3).toNatClampNeg (1 : Int32)) v0 = 12) ∧ (WP d mX12_leases 0 [some (.ref v0), some (.int v1), none, none, none, none, none] [] (sAI h s0 (v3).toNatClampNeg (1 : Int32)) (KK d mX12_acknowledged mX12_leases 192 [some (.ref v0), some (.int v1), some (.float v2), some (.int v3), some (.int v4)] [] Q)))))) : WP (d + 1) mX12_acknowledged 187 [some (.ref v0), some (.int v1), some (.float v2), some (.int v3), some (.int v4)] [.ref s0] h Q := by
  refine w_iload_n dX12_acknowledged_187 rfl ?_
  refine w_iconst dX12_acknowledged_188 i1_1 ?_
  obtain ⟨g1, k⟩ := k
  obtain ⟨g2, k⟩ := k
  refine w_bastore dX12_acknowledged_189 g1 g2 rfl ?_
  refine w_aload_n dX12_acknowledged_190 rfl ?_
  refine w_iload_n dX12_acknowledged_191 rfl ?_
  obtain ⟨g3, k⟩ := k
  obtain ⟨g4, k⟩ := k
  exact w_virt (as1 := [.int v1, .ref v0]) (as2 := [.ref v0, .int v1]) (rest := []) (lo2 := [some (.ref v0), some (.int v1), none, none, none, none, none]) dX12_acknowledged_192 c_12_252 rfl rfl rfl (Nat.le_of_ble_eq_true rfl) (Nat.le_of_ble_eq_true rfl) rfl (Nat.le_of_ble_eq_true rfl) rfl rfl g3 g4 k
theorem bX12_acknowledged_195 {d : Nat} {h : HP} {Q : Out → HP → Prop} {v0 : Nat} {v1 : Int32} {v2 : UInt32} {v3 : Int32} {v4 : Int32} (k : Q (.inl none) h) : WP d mX12_acknowledged 195 [some (.ref v0), some (.int v1), some (.float v2), some (.int v3), some (.int v4)] [] h Q := by
  exact w_return dX12_acknowledged_195 rfl k
theorem bX12_leases_0 {d : Nat} {h : HP} {Q : Out → HP → Prop} {v0 : Nat} {v1 : Int32} {u2 : Option Value} {u3 : Option Value} {u4 : Option Value} {u5 : Option Value} {u6 : Option Value} (k : WP d mX12_leases 7 [some (.ref v0), some (.int v1), some (.int (0 : Int32)), some (.float FP.fconst0), some (.int (0 : Int32)), u5, u6] [] h Q) : WP d mX12_leases 0 [some (.ref v0), some (.int v1), u2, u3, u4, u5, u6] [] h Q := by
  refine w_iconst dX12_leases_0 i1_0 ?_
  refine w_istore_n (lo' := [some (.ref v0), some (.int v1), some (.int (0 : Int32)), u3, u4, u5, u6]) dX12_leases_1 (ltQ rfl) rfl ?_
  refine w_fconst0 dX12_leases_2 ?_
  refine w_fstore_n (lo' := [some (.ref v0), some (.int v1), some (.int (0 : Int32)), some (.float FP.fconst0), u4, u5, u6]) dX12_leases_3 (ltQ rfl) rfl ?_
  refine w_iconst dX12_leases_4 i1_0 ?_
  refine w_istore (lo' := [some (.ref v0), some (.int v1), some (.int (0 : Int32)), some (.float FP.fconst0), some (.int (0 : Int32)), u5, u6]) dX12_leases_5 (ltQ rfl) rfl ?_
  exact k
theorem bX12_leases_7 {d : Nat} {h : HP} {Q : Out → HP → Prop} {v0 : Nat} {v1 : Int32} {v2 : Int32} {v3 : UInt32} {v4 : Int32} {u5 : Option Value} {u6 : Option Value} (k : (hK h v0 = 12) ∧ ((((hI h 1200 v0) ≤ v4) → ((v2 = 0) → Q (.inl none) h) ∧ ((¬ (v2 = 0)) → (hK h (hR h 1223 v0) = 21) ∧ ((inA h (hR h 1223 v0) v1 = true) ∧ ((hK (sAI h (hR h 1223 v0) (v1).toNatClampNeg (1 : Int32)) v0 = 12) ∧ ((nn32 (FP.fsub FP.fconst1 (hF (sAI h (hR h 1223 v0) (v1).toNatClampNeg (1 : Int32)) 1203 v0)) = true) ∧ ((nn32 (FP.fmul (hF (sAI h (hR h 1223 v0) (v1).toNatClampNeg (1 : Int32)) 1202 v0) (FP.fsub FP.fconst1 (hF (sAI h (hR h 1223 v0) (v1).toNatClampNeg (1 : Int32)) 1203 v0))) = true) ∧ ((nn32 (FP.fadd v3 (FP.fmul (hF (sAI h (hR h 1223 v0) (v1).toNatClampNeg (1 : Int32)) 1202 v0) (FP.fsub FP.fconst1 (hF (sAI h (hR h 1223 v0) (v1).toNatClampNeg (1 : Int32)) 1203 v0)))) = true) ∧ ((hK (sAI h (hR h 1223 v0) (v1).toNatClampNeg (1 : Int32)) (hR (sAI h (hR h 1223 v0) (v1).toNatClampNeg (1 : Int32)) 1224 v0) = 22) ∧ ((inA (sAI h (hR h 1223 v0) (v1).toNatClampNeg (1 : Int32)) (hR (sAI h (hR h 1223 v0) (v1).toNatClampNeg (1 : Int32)) 1224 v0) v1 = true) ∧ (Q (.inl none) (sAF (sAI h (hR h 1223 v0) (v1).toNatClampNeg (1 : Int32)) (hR (sAI h (hR h 1223 v0) (v1).toNatClampNeg (1 : Int32)) 1224 v0) (v1).toNatClampNeg (FP.fadd v3 (FP.fmul (hF (sAI h (hR h 1223 v0) (v1).toNatClampNeg (1 : Int32)) 1202 v0) (FP.fsub FP.fconst1 (hF (sAI h (hR h 1223 v0) (v1).toNatClampNeg (1 : Int32)) 1203 v0))))))))))))))) ∧ ((¬ ((hI h 1200 v0) ≤ v4)) → WP d mX12_leases 22 [some (.ref v0), some (.int v1), some (.int v2), some (.float v3), some (.int v4), some (.int (0 : Int32)), some (.int (0 : Int32))] [] h Q))) : WP d mX12_leases 7 [some (.ref v0), some (.int v1), some (.int v2), some (.float v3), some (.int v4), u5, u6] [] h Q := by
  refine w_iload dX12_leases_7 rfl ?_
  refine w_aload_n dX12_leases_9 rfl ?_
  obtain ⟨g1, k⟩ := k
  refine w_getI dX12_leases_10 f_12_7 t_12_0 g1 ?_
  refine w_ic_ge (pc' := 193) dX12_leases_13 rfl rfl ⟨fun c => ?_, fun c => ?_⟩
  · replace k := k.1 c
    refine w_iload_n dX12_leases_193 rfl ?_
    refine w_if_eq (pc' := 223) dX12_leases_194 rfl rfl ⟨fun c => ?_, fun c => ?_⟩
    · replace k := k.1 c
      exact w_return dX12_leases_223 rfl k
    · replace k := k.2 c
      refine w_aload_n dX12_leases_197 rfl ?_
      refine w_getR dX12_leases_198 f_12_75 t_12_23 g1 ?_
      refine w_iload_n dX12_leases_201 rfl ?_
      refine w_iconst dX12_leases_202 i1_1 ?_
      obtain ⟨g2, k⟩ := k
      obtain ⟨g3, k⟩ := k
      refine w_bastore dX12_leases_203 g2 g3 rfl ?_
      refine w_aload_n dX12_leases_204 rfl ?_
      obtain ⟨g4, k⟩ := k
      refine w_getR dX12_leases_205 f_12_78 t_12_24 g4 ?_
      refine w_iload_n dX12_leases_208 rfl ?_
      refine w_fload_n dX12_leases_209 rfl ?_
      refine w_aload_n dX12_leases_210 rfl ?_
      refine w_getF dX12_leases_211 f_12_14 t_12_2 g4 ?_
      refine w_fconst1 dX12_leases_214 ?_
      refine w_aload_n dX12_leases_215 rfl ?_
      refine w_getF dX12_leases_216 f_12_161 t_12_3 g4 ?_
      obtain ⟨g5, k⟩ := k
      refine w_fsub dX12_leases_219 g5 ?_
      obtain ⟨g6, k⟩ := k
      refine w_fmul dX12_leases_220 g6 ?_
      obtain ⟨g7, k⟩ := k
      refine w_fadd dX12_leases_221 g7 ?_
      obtain ⟨g8, k⟩ := k
      obtain ⟨g9, k⟩ := k
      refine w_fastore dX12_leases_222 g8 g9 ?_
      exact w_return dX12_leases_223 rfl k
  · replace k := k.2 c
    refine w_iconst dX12_leases_16 i1_0 ?_
    refine w_istore (lo' := [some (.ref v0), some (.int v1), some (.int v2), some (.float v3), some (.int v4), some (.int (0 : Int32)), u6]) dX12_leases_17 (ltQ rfl) rfl ?_
    refine w_iconst dX12_leases_19 i1_0 ?_
    refine w_istore (lo' := [some (.ref v0), some (.int v1), some (.int v2), some (.float v3), some (.int v4), some (.int (0 : Int32)), some (.int (0 : Int32))]) dX12_leases_20 (ltQ rfl) rfl ?_
    exact k
theorem bX12_leases_22 {d : Nat} {h : HP} {Q : Out → HP → Prop} {v0 : Nat} {v1 : Int32} {v2 : Int32} {v3 : UInt32} {v4 : Int32} {v5 : Int32} {v6 : Int32} (k : (hK h v0 = 12) ∧ ((((hI h 1200 v0) ≤ v6) → ((v4 = v1) → WP (d + 1) mX12_leases 128 [some (.ref v0), some (.int v1), some (.int v2), some (.float v3), some (.int v4), some (.int v5), some (.int v6)] [] h Q) ∧ ((¬ (v4 = v1)) → (1 < v0) ∧ (WP d mX12_most 0 [some (.ref v0)] [] h (KK d mX12_leases mX12_most 116 [some (.ref v0), some (.int v1), some (.int v2), some (.float v3), some (.int v4), some (.int v5), some (.int v6)] [.int v5] Q)))) ∧ ((¬ ((hI h 1200 v0) ≤ v6)) → ((v6 = v1) → WP (d + 1) mX12_leases 97 [some (.ref v0), some (.int v1), some (.int v2), some (.float v3), some (.int v4), some (.int v5), some (.int v6)] [.int v5] h Q) ∧ ((¬ (v6 = v1)) → (hK h (hR h 1221 v0) = 21) ∧ ((inA h (hR h 1221 v0) (((5 : Int32) * v1) + v6) = true) ∧ ((((hAI h (hR h 1221 v0) ((((5 : Int32) * v1) + v6)).toNatClampNeg) = 0) → WP (d + 1) mX12_leases 97 [some (.ref v0), some (.int v1), some (.int v2), some (.float v3), some (.int v4), some (.int v5), some (.int v6)] [.int v5] h Q) ∧ ((¬ ((hAI h (hR h 1221 v0) ((((5 : Int32) * v1) + v6)).toNatClampNeg) = 0)) → (inA h (hR h 1221 v0) (((5 : Int32) * v1) + v4) = true) ∧ ((((hAI h (hR h 1221 v0) ((((5 : Int32) * v1) + v4)).toNatClampNeg) = 0) → WP (d + 1) mX12_leases 97 [some (.ref v0), some (.int v1), some (.int v2), some (.float v3), some (.int v4), some (.int v5), some (.int v6)] [.int v5] h Q) ∧ ((¬ ((hAI h (hR h 1221 v0) ((((5 : Int32) * v1) + v4)).toNatClampNeg) = 0)) → (hK h (hR h 1222 v0) = 22) ∧ ((inA h (hR h 1222 v0) (((5 : Int32) * v1) + v6) = true) ∧ ((inA h (hR h 1222 v0) (((5 : Int32) * v1) + v4) = true) ∧ ((((Op.cmpValue (FP.fcmp (hAF h (hR h 1222 v0) ((((5 : Int32) * v1) + v6)).toNatClampNeg) (hAF h (hR h 1222 v0) ((((5 : Int32) * v1) + v4)).toNatClampNeg)) .l) < 0) → WP (d + 1) mX12_leases 97 [some (.ref v0), some (.int v1), some (.int v2), some (.float v3), some (.int v4), some (.int v5), some (.int v6)] [.int v5] h Q) ∧ ((¬ ((Op.cmpValue (FP.fcmp (hAF h (hR h 1222 v0) ((((5 : Int32) * v1) + v6)).toNatClampNeg) (hAF h (hR h 1222 v0) ((((5 : Int32) * v1) + v4)).toNatClampNeg)) .l) < 0)) → WP (d + 1) mX12_leases 98 [some (.ref v0), some (.int v1), some (.int v2), some (.float v3), some (.int v4), some (.int v5), some (.int v6)] [.int (1 : Int32), .int v5] h Q))))))))))))) : WP (d + 1) mX12_leases 22 [some (.ref v0), some (.int v1), some (.int v2), some (.float v3), some (.int v4), some (.int v5), some (.int v6)] [] h Q := by
  refine w_iload dX12_leases_22 rfl ?_
  refine w_aload_n dX12_leases_24 rfl ?_
  obtain ⟨g1, k⟩ := k
  refine w_getI dX12_leases_25 f_12_7 t_12_0 g1 ?_
  refine w_ic_ge (pc' := 107) dX12_leases_28 rfl rfl ⟨fun c => ?_, fun c => ?_⟩
  · replace k := k.1 c
    refine w_iload dX12_leases_107 rfl ?_
    refine w_iload_n dX12_leases_109 rfl ?_
    refine w_ic_eq (pc' := 128) dX12_leases_110 rfl rfl ⟨fun c => ?_, fun c => ?_⟩
    · replace k := k.1 c
      exact k
    · replace k := k.2 c
      refine w_iload dX12_leases_113 rfl ?_
      refine w_aload_n dX12_leases_115 rfl ?_
      obtain ⟨g2, k⟩ := k
      exact w_virt (as1 := [.ref v0]) (as2 := [.ref v0]) (rest := [.int v5]) (lo2 := [some (.ref v0)]) dX12_leases_116 c_12_241 rfl rfl rfl (Nat.le_of_ble_eq_true rfl) (Nat.le_of_ble_eq_true rfl) rfl (Nat.le_of_ble_eq_true rfl) rfl rfl g2 g1 k
  · replace k := k.2 c
    refine w_iload dX12_leases_31 rfl ?_
    refine w_iload dX12_leases_33 rfl ?_
    refine w_iload_n dX12_leases_35 rfl ?_
    refine w_ic_eq (pc' := 97) dX12_leases_36 rfl rfl ⟨fun c => ?_, fun c => ?_⟩
    · replace k := k.1 c
      exact k
    · replace k := k.2 c
      refine w_aload_n dX12_leases_39 rfl ?_
      refine w_getR dX12_leases_40 f_12_69 t_12_21 g1 ?_
      refine w_iconst dX12_leases_43 i1_5 ?_
      refine w_iload_n dX12_leases_44 rfl ?_
      refine w_imul dX12_leases_45 ?_
      refine w_iload dX12_leases_46 rfl ?_
      refine w_iadd dX12_leases_48 ?_
      obtain ⟨g3, k⟩ := k
      obtain ⟨g4, k⟩ := k
      refine w_baload dX12_leases_49 g3 g4 ?_
      refine w_if_eq (pc' := 97) dX12_leases_50 rfl rfl ⟨fun c => ?_, fun c => ?_⟩
      · replace k := k.1 c
        exact k
      · replace k := k.2 c
        refine w_aload_n dX12_leases_53 rfl ?_
        refine w_getR dX12_leases_54 f_12_69 t_12_21 g1 ?_
        refine w_iconst dX12_leases_57 i1_5 ?_
        refine w_iload_n dX12_leases_58 rfl ?_
        refine w_imul dX12_leases_59 ?_
        refine w_iload dX12_leases_60 rfl ?_
        refine w_iadd dX12_leases_62 ?_
        obtain ⟨g5, k⟩ := k
        refine w_baload dX12_leases_63 g3 g5 ?_
        refine w_if_eq (pc' := 97) dX12_leases_64 rfl rfl ⟨fun c => ?_, fun c => ?_⟩
        · replace k := k.1 c
          exact k
        · replace k := k.2 c
          refine w_aload_n dX12_leases_67 rfl ?_
          refine w_getR dX12_leases_68 f_12_72 t_12_22 g1 ?_
          refine w_iconst dX12_leases_71 i1_5 ?_
          refine w_iload_n dX12_leases_72 rfl ?_
          refine w_imul dX12_leases_73 ?_
          refine w_iload dX12_leases_74 rfl ?_
          refine w_iadd dX12_leases_76 ?_
          obtain ⟨g6, k⟩ := k
          obtain ⟨g7, k⟩ := k
          refine w_faload dX12_leases_77 g6 g7 ?_
          refine w_aload_n dX12_leases_78 rfl ?_
          refine w_getR dX12_leases_79 f_12_72 t_12_22 g1 ?_
          refine w_iconst dX12_leases_82 i1_5 ?_
          refine w_iload_n dX12_leases_83 rfl ?_
          refine w_imul dX12_leases_84 ?_
          refine w_iload dX12_leases_85 rfl ?_
          refine w_iadd dX12_leases_87 ?_
          obtain ⟨g8, k⟩ := k
          refine w_faload dX12_leases_88 g6 g8 ?_
          refine w_fcmp dX12_leases_89 ?_
          refine w_if_lt (pc' := 97) dX12_leases_90 rfl rfl ⟨fun c => ?_, fun c => ?_⟩
          · replace k := k.1 c
            exact k
          · replace k := k.2 c
            refine w_iconst dX12_leases_93 i1_1 ?_
            refine w_goto (pc' := 98) dX12_leases_94 rfl rfl ?_
            exact k
theorem bX12_leases_97 {d : Nat} {h : HP} {Q : Out → HP → Prop} {v0 : Nat} {v1 : Int32} {v2 : Int32} {v3 : UInt32} {v4 : Int32} {v5 : Int32} {v6 : Int32} {s0 : Int32} (k : WP d mX12_leases 98 [some (.ref v0), some (.int v1), some (.int v2), some (.float v3), some (.int v4), some (.int v5), some (.int v6)] [.int (0 : Int32), .int s0] h Q) : WP d mX12_leases 97 [some (.ref v0), some (.int v1), some (.int v2), some (.float v3), some (.int v4), some (.int v5), some (.int v6)] [.int s0] h Q := by
  refine w_iconst dX12_leases_97 i1_0 ?_
  exact k
theorem bX12_leases_98 {d : Nat} {h : HP} {Q : Out → HP → Prop} {v0 : Nat} {v1 : Int32} {v2 : Int32} {v3 : UInt32} {v4 : Int32} {v5 : Int32} {v6 : Int32} {s0 : Int32} {s1 : Int32} (k : WP d mX12_leases 22 [some (.ref v0), some (.int v1), some (.int v2), some (.float v3), some (.int v4), some (.int (s1 + s0)), some (.int (v6 + (1 : Int32)))] [] h Q) : WP d mX12_leases 98 [some (.ref v0), some (.int v1), some (.int v2), some (.float v3), some (.int v4), some (.int v5), some (.int v6)] [.int s0, .int s1] h Q := by
  refine w_iadd dX12_leases_98 ?_
  refine w_istore (lo' := [some (.ref v0), some (.int v1), some (.int v2), some (.float v3), some (.int v4), some (.int (s1 + s0)), some (.int v6)]) dX12_leases_99 (ltQ rfl) rfl ?_
  refine w_iinc (lo' := [some (.ref v0), some (.int v1), some (.int v2), some (.float v3), some (.int v4), some (.int (s1 + s0)), some (.int (v6 + (1 : Int32)))]) dX12_leases_101 rfl i1_1 rfl ?_
  refine w_goto (pc' := 22) dX12_leases_104 rfl rfl ?_
  exact k
theorem bX12_leases_119 {d : Nat} {h : HP} {Q : Out → HP → Prop} {v0 : Nat} {v1 : Int32} {v2 : Int32} {v3 : UInt32} {v4 : Int32} {v5 : Int32} {v6 : Int32} {s0 : Int32} {s1 : Int32} (k : ((s1 < (s0 - (1 : Int32))) → WP d mX12_leases 128 [some (.ref v0), some (.int v1), some (.int v2), some (.float v3), some (.int v4), some (.int v5), some (.int v6)] [] h Q) ∧ ((¬ (s1 < (s0 - (1 : Int32)))) → WP d mX12_leases 129 [some (.ref v0), some (.int v1), some (.int v2), some (.float v3), some (.int v4), some (.int v5), some (.int v6)] [.int (1 : Int32)] h Q)) : WP d mX12_leases 119 [some (.ref v0), some (.int v1), some (.int v2), some (.float v3), some (.int v4), some (.int v5), some (.int v6)] [.int s0, .int s1] h Q := by
  refine w_iconst dX12_leases_119 i1_1 ?_
  refine w_isub dX12_leases_120 ?_
  refine w_ic_lt (pc' := 128) dX12_leases_121 rfl rfl ⟨fun c => ?_, fun c => ?_⟩
  · replace k := k.1 c
    exact k
  · replace k := k.2 c
    refine w_iconst dX12_leases_124 i1_1 ?_
    refine w_goto (pc' := 129) dX12_leases_125 rfl rfl ?_
    exact k
theorem bX12_leases_128 {d : Nat} {h : HP} {Q : Out → HP → Prop} {v0 : Nat} {v1 : Int32} {v2 : Int32} {v3 : UInt32} {v4 : Int32} {v5 : Int32} {v6 : Int32} (k : WP d mX12_leases 129 [some (.ref v0), some (.int v1), some (.int v2), some (.float v3), some (.int v4), some (.int v5), some (.int v6)] [.int (0 : Int32)] h Q) : WP d mX12_leases 128 [some (.ref v0), some (.int v1), some (.int v2), some (.float v3), some (.int v4), some (.int v5), some (.int v6)] [] h Q := by
  refine w_iconst dX12_leases_128 i1_0 ?_
  exact k
theorem bX12_leases_129 {d : Nat} {h : HP} {Q : Out → HP → Prop} {v0 : Nat} {v1 : Int32} {v2 : Int32} {v3 : UInt32} {v4 : Int32} {v5 : Int32} {v6 : Int32} {s0 : Int32} (k : ((s0 = 0) → ((¬ v2 = 0) → WP d mX12_leases 7 [some (.ref v0), some (.int v1), some (.int (1 : Int32)), some (.float v3), some (.int (v4 + (1 : Int32))), some (.int v5), some (.int s0)] [] h Q) ∧ ((¬ (¬ v2 = 0)) → ((s0 = 0) → WP d mX12_leases 7 [some (.ref v0), some (.int v1), some (.int (0 : Int32)), some (.float v3), some (.int (v4 + (1 : Int32))), some (.int v5), some (.int s0)] [] h Q) ∧ ((¬ (s0 = 0)) → WP d mX12_leases 7 [some (.ref v0), some (.int v1), some (.int (1 : Int32)), some (.float v3), some (.int (v4 + (1 : Int32))), some (.int v5), some (.int s0)] [] h Q))) ∧ ((¬ (s0 = 0)) → ((v2 = 0) → WP d mX12_leases 156 [some (.ref v0), some (.int v1), some (.int v2), some (.float v3), some (.int v4), some (.int v5), some (.int s0)] [] h Q) ∧ ((¬ (v2 = 0)) → (hK h v0 = 12) ∧ ((hK h (hR h 1222 v0) = 22) ∧ ((inA h (hR h 1222 v0) (((5 : Int32) * v1) + v4) = true) ∧ ((((Op.cmpValue (FP.fcmp (hAF h (hR h 1222 v0) ((((5 : Int32) * v1) + v4)).toNatClampNeg) v3) .l) ≤ 0) → ((¬ v2 = 0) → WP d mX12_leases 7 [some (.ref v0), some (.int v1), some (.int (1 : Int32)), some (.float v3), some (.int (v4 + (1 : Int32))), some (.int v5), some (.int s0)] [] h Q) ∧ ((¬ (¬ v2 = 0)) → ((s0 = 0) → WP d mX12_leases 7 [some (.ref v0), some (.int v1), some (.int (0 : Int32)), some (.float v3), some (.int (v4 + (1 : Int32))), some (.int v5), some (.int s0)] [] h Q) ∧ ((¬ (s0 = 0)) → WP d mX12_leases 7 [some (.ref v0), some (.int v1), some (.int (1 : Int32)), some (.float v3), some (.int (v4 + (1 : Int32))), some (.int v5), some (.int s0)] [] h Q))) ∧ ((¬ ((Op.cmpValue (FP.fcmp (hAF h (hR h 1222 v0) ((((5 : Int32) * v1) + v4)).toNatClampNeg) v3) .l) ≤ 0)) → WP d mX12_leases 156 [some (.ref v0), some (.int v1), some (.int v2), some (.float v3), some (.int v4), some (.int v5), some (.int s0)] [] h Q))))))) : WP d mX12_leases 129 [some (.ref v0), some (.int v1), some (.int v2), some (.float v3), some (.int v4), some (.int v5), some (.int v6)] [.int s0] h Q := by
  refine w_istore (lo' := [some (.ref v0), some (.int v1), some (.int v2), some (.float v3), some (.int v4), some (.int v5), some (.int s0)]) dX12_leases_129 (ltQ rfl) rfl ?_
  refine w_iload dX12_leases_131 rfl ?_
  refine w_if_eq (pc' := 170) dX12_leases_133 rfl rfl ⟨fun c => ?_, fun c => ?_⟩
  · replace k := k.1 c
    refine w_fload_n dX12_leases_170 rfl ?_
    refine w_fstore_n (lo' := [some (.ref v0), some (.int v1), some (.int v2), some (.float v3), some (.int v4), some (.int v5), some (.int s0)]) dX12_leases_171 (ltQ rfl) rfl ?_
    refine w_iload_n dX12_leases_172 rfl ?_
    refine w_if_ne (pc' := 181) dX12_leases_173 rfl rfl ⟨fun c => ?_, fun c => ?_⟩
    · replace k := k.1 c
      refine w_iconst dX12_leases_181 i1_1 ?_
      refine w_goto (pc' := 186) dX12_leases_182 rfl rfl ?_
      refine w_istore_n (lo' := [some (.ref v0), some (.int v1), some (.int (1 : Int32)), some (.float v3), some (.int v4), some (.int v5), some (.int s0)]) dX12_leases_186 (ltQ rfl) rfl ?_
      refine w_iinc (lo' := [some (.ref v0), some (.int v1), some (.int (1 : Int32)), some (.float v3), some (.int (v4 + (1 : Int32))), some (.int v5), some (.int s0)]) dX12_leases_187 rfl i1_1 rfl ?_
      refine w_goto (pc' := 7) dX12_leases_190 rfl rfl ?_
      exact k
    · replace k := k.2 c
      refine w_iload dX12_leases_176 rfl ?_
      refine w_if_eq (pc' := 185) dX12_leases_178 rfl rfl ⟨fun c => ?_, fun c => ?_⟩
      · replace k := k.1 c
        refine w_iconst dX12_leases_185 i1_0 ?_
        refine w_istore_n (lo' := [some (.ref v0), some (.int v1), some (.int (0 : Int32)), some (.float v3), some (.int v4), some (.int v5), some (.int s0)]) dX12_leases_186 (ltQ rfl) rfl ?_
        refine w_iinc (lo' := [some (.ref v0), some (.int v1), some (.int (0 : Int32)), some (.float v3), some (.int (v4 + (1 : Int32))), some (.int v5), some (.int s0)]) dX12_leases_187 rfl i1_1 rfl ?_
        refine w_goto (pc' := 7) dX12_leases_190 rfl rfl ?_
        exact k
      · replace k := k.2 c
        refine w_iconst dX12_leases_181 i1_1 ?_
        refine w_goto (pc' := 186) dX12_leases_182 rfl rfl ?_
        refine w_istore_n (lo' := [some (.ref v0), some (.int v1), some (.int (1 : Int32)), some (.float v3), some (.int v4), some (.int v5), some (.int s0)]) dX12_leases_186 (ltQ rfl) rfl ?_
        refine w_iinc (lo' := [some (.ref v0), some (.int v1), some (.int (1 : Int32)), some (.float v3), some (.int (v4 + (1 : Int32))), some (.int v5), some (.int s0)]) dX12_leases_187 rfl i1_1 rfl ?_
        refine w_goto (pc' := 7) dX12_leases_190 rfl rfl ?_
        exact k
  · replace k := k.2 c
    refine w_iload_n dX12_leases_136 rfl ?_
    refine w_if_eq (pc' := 156) dX12_leases_137 rfl rfl ⟨fun c => ?_, fun c => ?_⟩
    · replace k := k.1 c
      exact k
    · replace k := k.2 c
      refine w_aload_n dX12_leases_140 rfl ?_
      obtain ⟨g1, k⟩ := k
      refine w_getR dX12_leases_141 f_12_72 t_12_22 g1 ?_
      refine w_iconst dX12_leases_144 i1_5 ?_
      refine w_iload_n dX12_leases_145 rfl ?_
      refine w_imul dX12_leases_146 ?_
      refine w_iload dX12_leases_147 rfl ?_
      refine w_iadd dX12_leases_149 ?_
      obtain ⟨g2, k⟩ := k
      obtain ⟨g3, k⟩ := k
      refine w_faload dX12_leases_150 g2 g3 ?_
      refine w_fload_n dX12_leases_151 rfl ?_
      refine w_fcmp dX12_leases_152 ?_
      refine w_if_le (pc' := 170) dX12_leases_153 rfl rfl ⟨fun c => ?_, fun c => ?_⟩
      · replace k := k.1 c
        refine w_fload_n dX12_leases_170 rfl ?_
        refine w_fstore_n (lo' := [some (.ref v0), some (.int v1), some (.int v2), some (.float v3), some (.int v4), some (.int v5), some (.int s0)]) dX12_leases_171 (ltQ rfl) rfl ?_
        refine w_iload_n dX12_leases_172 rfl ?_
        refine w_if_ne (pc' := 181) dX12_leases_173 rfl rfl ⟨fun c => ?_, fun c => ?_⟩
        · replace k := k.1 c
          refine w_iconst dX12_leases_181 i1_1 ?_
          refine w_goto (pc' := 186) dX12_leases_182 rfl rfl ?_
          refine w_istore_n (lo' := [some (.ref v0), some (.int v1), some (.int (1 : Int32)), some (.float v3), some (.int v4), some (.int v5), some (.int s0)]) dX12_leases_186 (ltQ rfl) rfl ?_
          refine w_iinc (lo' := [some (.ref v0), some (.int v1), some (.int (1 : Int32)), some (.float v3), some (.int (v4 + (1 : Int32))), some (.int v5), some (.int s0)]) dX12_leases_187 rfl i1_1 rfl ?_
          refine w_goto (pc' := 7) dX12_leases_190 rfl rfl ?_
          exact k
        · replace k := k.2 c
          refine w_iload dX12_leases_176 rfl ?_
          refine w_if_eq (pc' := 185) dX12_leases_178 rfl rfl ⟨fun c => ?_, fun c => ?_⟩
          · replace k := k.1 c
            refine w_iconst dX12_leases_185 i1_0 ?_
            refine w_istore_n (lo' := [some (.ref v0), some (.int v1), some (.int (0 : Int32)), some (.float v3), some (.int v4), some (.int v5), some (.int s0)]) dX12_leases_186 (ltQ rfl) rfl ?_
            refine w_iinc (lo' := [some (.ref v0), some (.int v1), some (.int (0 : Int32)), some (.float v3), some (.int (v4 + (1 : Int32))), some (.int v5), some (.int s0)]) dX12_leases_187 rfl i1_1 rfl ?_
            refine w_goto (pc' := 7) dX12_leases_190 rfl rfl ?_
            exact k
          · replace k := k.2 c
            refine w_iconst dX12_leases_181 i1_1 ?_
            refine w_goto (pc' := 186) dX12_leases_182 rfl rfl ?_
            refine w_istore_n (lo' := [some (.ref v0), some (.int v1), some (.int (1 : Int32)), some (.float v3), some (.int v4), some (.int v5), some (.int s0)]) dX12_leases_186 (ltQ rfl) rfl ?_
            refine w_iinc (lo' := [some (.ref v0), some (.int v1), some (.int (1 : Int32)), some (.float v3), some (.int (v4 + (1 : Int32))), some (.int v5), some (.int s0)]) dX12_leases_187 rfl i1_1 rfl ?_
            refine w_goto (pc' := 7) dX12_leases_190 rfl rfl ?_
            exact k
      · replace k := k.2 c
        exact k
theorem bX12_leases_156 {d : Nat} {h : HP} {Q : Out → HP → Prop} {v0 : Nat} {v1 : Int32} {v2 : Int32} {v3 : UInt32} {v4 : Int32} {v5 : Int32} {v6 : Int32} (k : (hK h v0 = 12) ∧ ((hK h (hR h 1222 v0) = 22) ∧ ((inA h (hR h 1222 v0) (((5 : Int32) * v1) + v4) = true) ∧ (((¬ v2 = 0) → WP d mX12_leases 7 [some (.ref v0), some (.int v1), some (.int (1 : Int32)), some (.float (hAF h (hR h 1222 v0) ((((5 : Int32) * v1) + v4)).toNatClampNeg)), some (.int (v4 + (1 : Int32))), some (.int v5), some (.int v6)] [] h Q) ∧ ((¬ (¬ v2 = 0)) → ((v6 = 0) → WP d mX12_leases 7 [some (.ref v0), some (.int v1), some (.int (0 : Int32)), some (.float (hAF h (hR h 1222 v0) ((((5 : Int32) * v1) + v4)).toNatClampNeg)), some (.int (v4 + (1 : Int32))), some (.int v5), some (.int v6)] [] h Q) ∧ ((¬ (v6 = 0)) → WP d mX12_leases 7 [some (.ref v0), some (.int v1), some (.int (1 : Int32)), some (.float (hAF h (hR h 1222 v0) ((((5 : Int32) * v1) + v4)).toNatClampNeg)), some (.int (v4 + (1 : Int32))), some (.int v5), some (.int v6)] [] h Q)))))) : WP d mX12_leases 156 [some (.ref v0), some (.int v1), some (.int v2), some (.float v3), some (.int v4), some (.int v5), some (.int v6)] [] h Q := by
  refine w_aload_n dX12_leases_156 rfl ?_
  obtain ⟨g1, k⟩ := k
  refine w_getR dX12_leases_157 f_12_72 t_12_22 g1 ?_
  refine w_iconst dX12_leases_160 i1_5 ?_
  refine w_iload_n dX12_leases_161 rfl ?_
  refine w_imul dX12_leases_162 ?_
  refine w_iload dX12_leases_163 rfl ?_
  refine w_iadd dX12_leases_165 ?_
  obtain ⟨g2, k⟩ := k
  obtain ⟨g3, k⟩ := k
  refine w_faload dX12_leases_166 g2 g3 ?_
  refine w_goto (pc' := 171) dX12_leases_167 rfl rfl ?_
  refine w_fstore_n (lo' := [some (.ref v0), some (.int v1), some (.int v2), some (.float (hAF h (hR h 1222 v0) ((((5 : Int32) * v1) + v4)).toNatClampNeg)), some (.int v4), some (.int v5), some (.int v6)]) dX12_leases_171 (ltQ rfl) rfl ?_
  refine w_iload_n dX12_leases_172 rfl ?_
  refine w_if_ne (pc' := 181) dX12_leases_173 rfl rfl ⟨fun c => ?_, fun c => ?_⟩
  · replace k := k.1 c
    refine w_iconst dX12_leases_181 i1_1 ?_
    refine w_goto (pc' := 186) dX12_leases_182 rfl rfl ?_
    refine w_istore_n (lo' := [some (.ref v0), some (.int v1), some (.int (1 : Int32)), some (.float (hAF h (hR h 1222 v0) ((((5 : Int32) * v1) + v4)).toNatClampNeg)), some (.int v4), some (.int v5), some (.int v6)]) dX12_leases_186 (ltQ rfl) rfl ?_
    refine w_iinc (lo' := [some (.ref v0), some (.int v1), some (.int (1 : Int32)), some (.float (hAF h (hR h 1222 v0) ((((5 : Int32) * v1) + v4)).toNatClampNeg)), some (.int (v4 + (1 : Int32))), some (.int v5), some (.int v6)]) dX12_leases_187 rfl i1_1 rfl ?_
    refine w_goto (pc' := 7) dX12_leases_190 rfl rfl ?_
    exact k
  · replace k := k.2 c
    refine w_iload dX12_leases_176 rfl ?_
    refine w_if_eq (pc' := 185) dX12_leases_178 rfl rfl ⟨fun c => ?_, fun c => ?_⟩
    · replace k := k.1 c
      refine w_iconst dX12_leases_185 i1_0 ?_
      refine w_istore_n (lo' := [some (.ref v0), some (.int v1), some (.int (0 : Int32)), some (.float (hAF h (hR h 1222 v0) ((((5 : Int32) * v1) + v4)).toNatClampNeg)), some (.int v4), some (.int v5), some (.int v6)]) dX12_leases_186 (ltQ rfl) rfl ?_
      refine w_iinc (lo' := [some (.ref v0), some (.int v1), some (.int (0 : Int32)), some (.float (hAF h (hR h 1222 v0) ((((5 : Int32) * v1) + v4)).toNatClampNeg)), some (.int (v4 + (1 : Int32))), some (.int v5), some (.int v6)]) dX12_leases_187 rfl i1_1 rfl ?_
      refine w_goto (pc' := 7) dX12_leases_190 rfl rfl ?_
      exact k
    · replace k := k.2 c
      refine w_iconst dX12_leases_181 i1_1 ?_
      refine w_goto (pc' := 186) dX12_leases_182 rfl rfl ?_
      refine w_istore_n (lo' := [some (.ref v0), some (.int v1), some (.int (1 : Int32)), some (.float (hAF h (hR h 1222 v0) ((((5 : Int32) * v1) + v4)).toNatClampNeg)), some (.int v4), some (.int v5), some (.int v6)]) dX12_leases_186 (ltQ rfl) rfl ?_
      refine w_iinc (lo' := [some (.ref v0), some (.int v1), some (.int (1 : Int32)), some (.float (hAF h (hR h 1222 v0) ((((5 : Int32) * v1) + v4)).toNatClampNeg)), some (.int (v4 + (1 : Int32))), some (.int v5), some (.int v6)]) dX12_leases_187 rfl i1_1 rfl ?_
      refine w_goto (pc' := 7) dX12_leases_190 rfl rfl ?_
      exact k
theorem bX12_actOf_0 {d : Nat} {h : HP} {Q : Out → HP → Prop} {v0 : Nat} {v1 : Int32} {v2 : Int32} {u3 : Option Value} (k : WP d mX12_actOf 2 [some (.ref v0), some (.int v1), some (.int v2), some (.int (0 : Int32))] [] h Q) : WP d mX12_actOf 0 [some (.ref v0), some (.int v1), some (.int v2), u3] [] h Q := by
  refine w_iconst dX12_actOf_0 i1_0 ?_
  refine w_istore_n (lo' := [some (.ref v0), some (.int v1), some (.int v2), some (.int (0 : Int32))]) dX12_actOf_1 (ltQ rfl) rfl ?_
  exact k
theorem bX12_actOf_2 {d : Nat} {h : HP} {Q : Out → HP → Prop} {v0 : Nat} {v1 : Int32} {v2 : Int32} {v3 : Int32} (k : (hK h v0 = 12) ∧ ((((hI h 1247 v0) ≤ v3) → Q (.inl (some (.int (-1 : Int32)))) h) ∧ ((¬ ((hI h 1247 v0) ≤ v3)) → (hK h (hR h 1241 v0) = 21) ∧ ((inA h (hR h 1241 v0) v3 = true) ∧ ((((hAI h (hR h 1241 v0) (v3).toNatClampNeg) = 0) → WP d mX12_actOf 2 [some (.ref v0), some (.int v1), some (.int v2), some (.int (v3 + (1 : Int32)))] [] h Q) ∧ ((¬ ((hAI h (hR h 1241 v0) (v3).toNatClampNeg) = 0)) → (hK h (hR h 1242 v0) = 20) ∧ ((inA h (hR h 1242 v0) v3 = true) ∧ (((¬ (hAI h (hR h 1242 v0) (v3).toNatClampNeg) = v1) → WP d mX12_actOf 2 [some (.ref v0), some (.int v1), some (.int v2), some (.int (v3 + (1 : Int32)))] [] h Q) ∧ ((¬ (¬ (hAI h (hR h 1242 v0) (v3).toNatClampNeg) = v1)) → (hK h (hR h 1243 v0) = 20) ∧ ((inA h (hR h 1243 v0) v3 = true) ∧ (((¬ (hAI h (hR h 1243 v0) (v3).toNatClampNeg) = v2) → WP d mX12_actOf 2 [some (.ref v0), some (.int v1), some (.int v2), some (.int (v3 + (1 : Int32)))] [] h Q) ∧ ((¬ (¬ (hAI h (hR h 1243 v0) (v3).toNatClampNeg) = v2)) → Q (.inl (some (.int v3))) h)))))))))))) : WP d mX12_actOf 2 [some (.ref v0), some (.int v1), some (.int v2), some (.int v3)] [] h Q := by
  refine w_iload_n dX12_actOf_2 rfl ?_
  refine w_aload_n dX12_actOf_3 rfl ?_
  obtain ⟨g1, k⟩ := k
  refine w_getI dX12_actOf_4 f_12_170 t_12_47 g1 ?_
  refine w_ic_ge (pc' := 47) dX12_actOf_7 rfl rfl ⟨fun c => ?_, fun c => ?_⟩
  · replace k := k.1 c
    refine w_iconst dX12_actOf_47 i1_m1 ?_
    exact w_ireturn dX12_actOf_48 rfl k
  · replace k := k.2 c
    refine w_aload_n dX12_actOf_10 rfl ?_
    refine w_getR dX12_actOf_11 f_12_123 t_12_41 g1 ?_
    refine w_iload_n dX12_actOf_14 rfl ?_
    obtain ⟨g2, k⟩ := k
    obtain ⟨g3, k⟩ := k
    refine w_baload dX12_actOf_15 g2 g3 ?_
    refine w_if_eq (pc' := 41) dX12_actOf_16 rfl rfl ⟨fun c => ?_, fun c => ?_⟩
    · replace k := k.1 c
      refine w_iinc (lo' := [some (.ref v0), some (.int v1), some (.int v2), some (.int (v3 + (1 : Int32)))]) dX12_actOf_41 rfl i1_1 rfl ?_
      refine w_goto (pc' := 2) dX12_actOf_44 rfl rfl ?_
      exact k
    · replace k := k.2 c
      refine w_aload_n dX12_actOf_19 rfl ?_
      refine w_getR dX12_actOf_20 f_12_126 t_12_42 g1 ?_
      refine w_iload_n dX12_actOf_23 rfl ?_
      obtain ⟨g4, k⟩ := k
      obtain ⟨g5, k⟩ := k
      refine w_iaload dX12_actOf_24 g4 g5 ?_
      refine w_iload_n dX12_actOf_25 rfl ?_
      refine w_ic_ne (pc' := 41) dX12_actOf_26 rfl rfl ⟨fun c => ?_, fun c => ?_⟩
      · replace k := k.1 c
        refine w_iinc (lo' := [some (.ref v0), some (.int v1), some (.int v2), some (.int (v3 + (1 : Int32)))]) dX12_actOf_41 rfl i1_1 rfl ?_
        refine w_goto (pc' := 2) dX12_actOf_44 rfl rfl ?_
        exact k
      · replace k := k.2 c
        refine w_aload_n dX12_actOf_29 rfl ?_
        refine w_getR dX12_actOf_30 f_12_129 t_12_43 g1 ?_
        refine w_iload_n dX12_actOf_33 rfl ?_
        obtain ⟨g6, k⟩ := k
        obtain ⟨g7, k⟩ := k
        refine w_iaload dX12_actOf_34 g6 g7 ?_
        refine w_iload_n dX12_actOf_35 rfl ?_
        refine w_ic_ne (pc' := 41) dX12_actOf_36 rfl rfl ⟨fun c => ?_, fun c => ?_⟩
        · replace k := k.1 c
          refine w_iinc (lo' := [some (.ref v0), some (.int v1), some (.int v2), some (.int (v3 + (1 : Int32)))]) dX12_actOf_41 rfl i1_1 rfl ?_
          refine w_goto (pc' := 2) dX12_actOf_44 rfl rfl ?_
          exact k
        · replace k := k.2 c
          refine w_iload_n dX12_actOf_39 rfl ?_
          exact w_ireturn dX12_actOf_40 rfl k
theorem bX12_acts_0 {d : Nat} {h : HP} {Q : Out → HP → Prop} {v0 : Nat} {v1 : Int32} {v2 : Int32} {v3 : Int32} {v4 : Int32} {v5 : Int32} (k : (hK h v0 = 12) ∧ ((hK h (hR h 1241 v0) = 21) ∧ ((inA h (hR h 1241 v0) (hI h 1247 v0) = true) ∧ ((isZ v1 = true) ∧ ((hK (sAI h (hR h 1241 v0) ((hI h 1247 v0)).toNatClampNeg v1) v0 = 12) ∧ ((hK (sAI h (hR h 1241 v0) ((hI h 1247 v0)).toNatClampNeg v1) (hR (sAI h (hR h 1241 v0) ((hI h 1247 v0)).toNatClampNeg v1) 1242 v0) = 20) ∧ ((inA (sAI h (hR h 1241 v0) ((hI h 1247 v0)).toNatClampNeg v1) (hR (sAI h (hR h 1241 v0) ((hI h 1247 v0)).toNatClampNeg v1) 1242 v0) (hI (sAI h (hR h 1241 v0) ((hI h 1247 v0)).toNatClampNeg v1) 1247 v0) = true) ∧ ((hK (sAI (sAI h (hR h 1241 v0) ((hI h 1247 v0)).toNatClampNeg v1) (hR (sAI h (hR h 1241 v0) ((hI h 1247 v0)).toNatClampNeg v1) 1242 v0) ((hI (sAI h (hR h 1241 v0) ((hI h 1247 v0)).toNatClampNeg v1) 1247 v0)).toNatClampNeg v2) v0 = 12) ∧ (WP d mX12_acts 28 [some (.ref v0), some (.int v1), some (.int v2), some (.int v3), some (.int v4), some (.int v5)] [.int (hI (sAI (sAI h (hR h 1241 v0) ((hI h 1247 v0)).toNatClampNeg v1) (hR (sAI h (hR h 1241 v0) ((hI h 1247 v0)).toNatClampNeg v1) 1242 v0) ((hI (sAI h (hR h 1241 v0) ((hI h 1247 v0)).toNatClampNeg v1) 1247 v0)).toNatClampNeg v2) 1247 v0), .ref (hR (sAI (sAI h (hR h 1241 v0) ((hI h 1247 v0)).toNatClampNeg v1) (hR (sAI h (hR h 1241 v0) ((hI h 1247 v0)).toNatClampNeg v1) 1242 v0) ((hI (sAI h (hR h 1241 v0) ((hI h 1247 v0)).toNatClampNeg v1) 1247 v0)).toNatClampNeg v2) 1243 v0)] (sAI (sAI h (hR h 1241 v0) ((hI h 1247 v0)).toNatClampNeg v1) (hR (sAI h (hR h 1241 v0) ((hI h 1247 v0)).toNatClampNeg v1) 1242 v0) ((hI (sAI h (hR h 1241 v0) ((hI h 1247 v0)).toNatClampNeg v1) 1247 v0)).toNatClampNeg v2) Q))))))))) : WP d mX12_acts 0 [some (.ref v0), some (.int v1), some (.int v2), some (.int v3), some (.int v4), some (.int v5)] [] h Q := by
  refine w_aload_n dX12_acts_0 rfl ?_
  obtain ⟨g1, k⟩ := k
  refine w_getR dX12_acts_1 f_12_123 t_12_41 g1 ?_
  refine w_aload_n dX12_acts_4 rfl ?_
  refine w_getI dX12_acts_5 f_12_170 t_12_47 g1 ?_
  refine w_iload_n dX12_acts_8 rfl ?_
  obtain ⟨g2, k⟩ := k
  obtain ⟨g3, k⟩ := k
  obtain ⟨g4, k⟩ := k
  refine w_bastore dX12_acts_9 g2 g3 g4 ?_
  refine w_aload_n dX12_acts_10 rfl ?_
  obtain ⟨g5, k⟩ := k
  refine w_getR dX12_acts_11 f_12_126 t_12_42 g5 ?_
  refine w_aload_n dX12_acts_14 rfl ?_
  refine w_getI dX12_acts_15 f_12_170 t_12_47 g5 ?_
  refine w_iload_n dX12_acts_18 rfl ?_
  obtain ⟨g6, k⟩ := k
  obtain ⟨g7, k⟩ := k
  refine w_iastore dX12_acts_19 g6 g7 ?_
  refine w_aload_n dX12_acts_20 rfl ?_
  obtain ⟨g8, k⟩ := k
  refine w_getR dX12_acts_21 f_12_129 t_12_43 g8 ?_
  refine w_aload_n dX12_acts_24 rfl ?_
  refine w_getI dX12_acts_25 f_12_170 t_12_47 g8 ?_
  exact k
theorem bX12_acts_28 {d : Nat} {h : HP} {Q : Out → HP → Prop} {v0 : Nat} {v1 : Int32} {v2 : Int32} {v3 : Int32} {v4 : Int32} {v5 : Int32} {s0 : Int32} {s1 : Nat} (k : (hK h s1 = 20) ∧ ((inA h s1 s0 = true) ∧ ((hK (sAI h s1 (s0).toNatClampNeg v3) v0 = 12) ∧ ((hK (sAI h s1 (s0).toNatClampNeg v3) (hR (sAI h s1 (s0).toNatClampNeg v3) 1244 v0) = 20) ∧ ((inA (sAI h s1 (s0).toNatClampNeg v3) (hR (sAI h s1 (s0).toNatClampNeg v3) 1244 v0) (hI (sAI h s1 (s0).toNatClampNeg v3) 1247 v0) = true) ∧ ((hK (sAI (sAI h s1 (s0).toNatClampNeg v3) (hR (sAI h s1 (s0).toNatClampNeg v3) 1244 v0) ((hI (sAI h s1 (s0).toNatClampNeg v3) 1247 v0)).toNatClampNeg v4) v0 = 12) ∧ (WP d mX12_acts 53 [some (.ref v0), some (.int v1), some (.int v2), some (.int v3), some (.int v4), some (.int v5)] [.int (hI (sAI (sAI h s1 (s0).toNatClampNeg v3) (hR (sAI h s1 (s0).toNatClampNeg v3) 1244 v0) ((hI (sAI h s1 (s0).toNatClampNeg v3) 1247 v0)).toNatClampNeg v4) 1204 v0), .int (hI (sAI (sAI h s1 (s0).toNatClampNeg v3) (hR (sAI h s1 (s0).toNatClampNeg v3) 1244 v0) ((hI (sAI h s1 (s0).toNatClampNeg v3) 1247 v0)).toNatClampNeg v4) 1247 v0), .ref (hR (sAI (sAI h s1 (s0).toNatClampNeg v3) (hR (sAI h s1 (s0).toNatClampNeg v3) 1244 v0) ((hI (sAI h s1 (s0).toNatClampNeg v3) 1247 v0)).toNatClampNeg v4) 1245 v0)] (sAI (sAI h s1 (s0).toNatClampNeg v3) (hR (sAI h s1 (s0).toNatClampNeg v3) 1244 v0) ((hI (sAI h s1 (s0).toNatClampNeg v3) 1247 v0)).toNatClampNeg v4) Q))))))) : WP d mX12_acts 28 [some (.ref v0), some (.int v1), some (.int v2), some (.int v3), some (.int v4), some (.int v5)] [.int s0, .ref s1] h Q := by
  refine w_iload_n dX12_acts_28 rfl ?_
  obtain ⟨g1, k⟩ := k
  obtain ⟨g2, k⟩ := k
  refine w_iastore dX12_acts_29 g1 g2 ?_
  refine w_aload_n dX12_acts_30 rfl ?_
  obtain ⟨g3, k⟩ := k
  refine w_getR dX12_acts_31 f_12_132 t_12_44 g3 ?_
  refine w_aload_n dX12_acts_34 rfl ?_
  refine w_getI dX12_acts_35 f_12_170 t_12_47 g3 ?_
  refine w_iload dX12_acts_38 rfl ?_
  obtain ⟨g4, k⟩ := k
  obtain ⟨g5, k⟩ := k
  refine w_iastore dX12_acts_40 g4 g5 ?_
  refine w_aload_n dX12_acts_41 rfl ?_
  obtain ⟨g6, k⟩ := k
  refine w_getR dX12_acts_42 f_12_135 t_12_45 g6 ?_
  refine w_aload_n dX12_acts_45 rfl ?_
  refine w_getI dX12_acts_46 f_12_170 t_12_47 g6 ?_
  refine w_aload_n dX12_acts_49 rfl ?_
  refine w_getI dX12_acts_50 f_12_164 t_12_4 g6 ?_
  exact k
theorem bX12_acts_53 {d : Nat} {h : HP} {Q : Out → HP → Prop} {v0 : Nat} {v1 : Int32} {v2 : Int32} {v3 : Int32} {v4 : Int32} {v5 : Int32} {s0 : Int32} {s1 : Int32} {s2 : Nat} (k : (hK h s2 = 20) ∧ ((inA h s2 s1 = true) ∧ ((hK (sAI h s2 (s1).toNatClampNeg s0) v0 = 12) ∧ ((hK (sAI h s2 (s1).toNatClampNeg s0) (hR (sAI h s2 (s1).toNatClampNeg s0) 1246 v0) = 20) ∧ ((inA (sAI h s2 (s1).toNatClampNeg s0) (hR (sAI h s2 (s1).toNatClampNeg s0) 1246 v0) (hI (sAI h s2 (s1).toNatClampNeg s0) 1247 v0) = true) ∧ ((hK (sAI (sAI h s2 (s1).toNatClampNeg s0) (hR (sAI h s2 (s1).toNatClampNeg s0) 1246 v0) ((hI (sAI h s2 (s1).toNatClampNeg s0) 1247 v0)).toNatClampNeg v5) v0 = 12) ∧ (Q (.inl none) (sI (sAI (sAI h s2 (s1).toNatClampNeg s0) (hR (sAI h s2 (s1).toNatClampNeg s0) 1246 v0) ((hI (sAI h s2 (s1).toNatClampNeg s0) 1247 v0)).toNatClampNeg v5) 1247 v0 ((hI (sAI (sAI h s2 (s1).toNatClampNeg s0) (hR (sAI h s2 (s1).toNatClampNeg s0) 1246 v0) ((hI (sAI h s2 (s1).toNatClampNeg s0) 1247 v0)).toNatClampNeg v5) 1247 v0) + (1 : Int32)))))))))) : WP d mX12_acts 53 [some (.ref v0), some (.int v1), some (.int v2), some (.int v3), some (.int v4), some (.int v5)] [.int s0, .int s1, .ref s2] h Q := by
  obtain ⟨g1, k⟩ := k
  obtain ⟨g2, k⟩ := k
  refine w_iastore dX12_acts_53 g1 g2 ?_
  refine w_aload_n dX12_acts_54 rfl ?_
  obtain ⟨g3, k⟩ := k
  refine w_getR dX12_acts_55 f_12_138 t_12_46 g3 ?_
  refine w_aload_n dX12_acts_58 rfl ?_
  refine w_getI dX12_acts_59 f_12_170 t_12_47 g3 ?_
  refine w_iload dX12_acts_62 rfl ?_
  obtain ⟨g4, k⟩ := k
  obtain ⟨g5, k⟩ := k
  refine w_iastore dX12_acts_64 g4 g5 ?_
  refine w_aload_n dX12_acts_65 rfl ?_
  refine w_dup dX12_acts_66 rfl ?_
  obtain ⟨g6, k⟩ := k
  refine w_getI dX12_acts_67 f_12_170 t_12_47 g6 ?_
  refine w_iconst dX12_acts_70 i1_1 ?_
  refine w_iadd dX12_acts_71 ?_
  refine w_putI dX12_acts_72 f_12_170 t_12_47 (pf_nf n_12_47) g6 ?_
  exact w_return dX12_acts_75 rfl k
theorem bX12_entryOf_0 {d : Nat} {h : HP} {Q : Out → HP → Prop} {v0 : Nat} {v1 : Int32} {v2 : Int32} {v3 : Int32} {v4 : Int32} {u5 : Option Value} {u6 : Option Value} (k : WP d mX12_entryOf 3 [some (.ref v0), some (.int v1), some (.int v2), some (.int v3), some (.int v4), some (.int (0 : Int32)), u6] [] h Q) : WP d mX12_entryOf 0 [some (.ref v0), some (.int v1), some (.int v2), some (.int v3), some (.int v4), u5, u6] [] h Q := by
  refine w_iconst dX12_entryOf_0 i1_0 ?_
  refine w_istore (lo' := [some (.ref v0), some (.int v1), some (.int v2), some (.int v3), some (.int v4), some (.int (0 : Int32)), u6]) dX12_entryOf_1 (ltQ rfl) rfl ?_
  exact k
theorem bX12_entryOf_3 {d : Nat} {h : HP} {Q : Out → HP → Prop} {v0 : Nat} {v1 : Int32} {v2 : Int32} {v3 : Int32} {v4 : Int32} {v5 : Int32} {u6 : Option Value} (k : (hK h v0 = 12) ∧ ((hK h (hR h 1212 v0) = 20) ∧ ((inA h (hR h 1212 v0) v1 = true) ∧ ((((hAI h (hR h 1212 v0) (v1).toNatClampNeg) ≤ v5) → Q (.inl (some (.int (0 : Int32)))) h) ∧ ((¬ ((hAI h (hR h 1212 v0) (v1).toNatClampNeg) ≤ v5)) → (hK h (hR h 1215 v0) = 20) ∧ ((inA h (hR h 1215 v0) (((30 : Int32) * v1) + v5) = true) ∧ (((¬ (hAI h (hR h 1215 v0) ((((30 : Int32) * v1) + v5)).toNatClampNeg) = v2) → WP d mX12_entryOf 3 [some (.ref v0), some (.int v1), some (.int v2), some (.int v3), some (.int v4), some (.int (v5 + (1 : Int32))), some (.int (((30 : Int32) * v1) + v5))] [] h Q) ∧ ((¬ (¬ (hAI h (hR h 1215 v0) ((((30 : Int32) * v1) + v5)).toNatClampNeg) = v2)) → (hK h (hR h 1216 v0) = 20) ∧ ((inA h (hR h 1216 v0) (((30 : Int32) * v1) + v5) = true) ∧ ((((hAI h (hR h 1216 v0) ((((30 : Int32) * v1) + v5)).toNatClampNeg) = v3) → Q (.inl (some (.int (v5 + (1 : Int32))))) h) ∧ ((¬ ((hAI h (hR h 1216 v0) ((((30 : Int32) * v1) + v5)).toNatClampNeg) = v3)) → ((v4 = 0) → WP d mX12_entryOf 3 [some (.ref v0), some (.int v1), some (.int v2), some (.int v3), some (.int v4), some (.int (v5 + (1 : Int32))), some (.int (((30 : Int32) * v1) + v5))] [] h Q) ∧ ((¬ (v4 = 0)) → (((hAI h (hR h 1216 v0) ((((30 : Int32) * v1) + v5)).toNatClampNeg) ≤ v3) → WP d mX12_entryOf 3 [some (.ref v0), some (.int v1), some (.int v2), some (.int v3), some (.int v4), some (.int (v5 + (1 : Int32))), some (.int (((30 : Int32) * v1) + v5))] [] h Q) ∧ ((¬ ((hAI h (hR h 1216 v0) ((((30 : Int32) * v1) + v5)).toNatClampNeg) ≤ v3)) → Q (.inl (some (.int (v5 + (1 : Int32))))) h))))))))))))) : WP d mX12_entryOf 3 [some (.ref v0), some (.int v1), some (.int v2), some (.int v3), some (.int v4), some (.int v5), u6] [] h Q := by
  refine w_iload dX12_entryOf_3 rfl ?_
  refine w_aload_n dX12_entryOf_5 rfl ?_
  obtain ⟨g1, k⟩ := k
  refine w_getR dX12_entryOf_6 f_12_42 t_12_12 g1 ?_
  refine w_iload_n dX12_entryOf_9 rfl ?_
  obtain ⟨g2, k⟩ := k
  obtain ⟨g3, k⟩ := k
  refine w_iaload dX12_entryOf_10 g2 g3 ?_
  refine w_ic_ge (pc' := 72) dX12_entryOf_11 rfl rfl ⟨fun c => ?_, fun c => ?_⟩
  · replace k := k.1 c
    refine w_iconst dX12_entryOf_72 i1_0 ?_
    exact w_ireturn dX12_entryOf_73 rfl k
  · replace k := k.2 c
    refine w_bipush dX12_entryOf_14 i2_30 ?_
    refine w_iload_n dX12_entryOf_16 rfl ?_
    refine w_imul dX12_entryOf_17 ?_
    refine w_iload dX12_entryOf_18 rfl ?_
    refine w_iadd dX12_entryOf_20 ?_
    refine w_istore (lo' := [some (.ref v0), some (.int v1), some (.int v2), some (.int v3), some (.int v4), some (.int v5), some (.int (((30 : Int32) * v1) + v5))]) dX12_entryOf_21 (ltQ rfl) rfl ?_
    refine w_aload_n dX12_entryOf_23 rfl ?_
    refine w_getR dX12_entryOf_24 f_12_51 t_12_15 g1 ?_
    refine w_iload dX12_entryOf_27 rfl ?_
    obtain ⟨g4, k⟩ := k
    obtain ⟨g5, k⟩ := k
    refine w_iaload dX12_entryOf_29 g4 g5 ?_
    refine w_iload_n dX12_entryOf_30 rfl ?_
    refine w_ic_ne (pc' := 66) dX12_entryOf_31 rfl rfl ⟨fun c => ?_, fun c => ?_⟩
    · replace k := k.1 c
      refine w_iinc (lo' := [some (.ref v0), some (.int v1), some (.int v2), some (.int v3), some (.int v4), some (.int (v5 + (1 : Int32))), some (.int (((30 : Int32) * v1) + v5))]) dX12_entryOf_66 rfl i1_1 rfl ?_
      refine w_goto (pc' := 3) dX12_entryOf_69 rfl rfl ?_
      exact k
    · replace k := k.2 c
      refine w_aload_n dX12_entryOf_34 rfl ?_
      refine w_getR dX12_entryOf_35 f_12_54 t_12_16 g1 ?_
      refine w_iload dX12_entryOf_38 rfl ?_
      obtain ⟨g6, k⟩ := k
      obtain ⟨g7, k⟩ := k
      refine w_iaload dX12_entryOf_40 g6 g7 ?_
      refine w_iload_n dX12_entryOf_41 rfl ?_
      refine w_ic_eq (pc' := 61) dX12_entryOf_42 rfl rfl ⟨fun c => ?_, fun c => ?_⟩
      · replace k := k.1 c
        refine w_iload dX12_entryOf_61 rfl ?_
        refine w_iconst dX12_entryOf_63 i1_1 ?_
        refine w_iadd dX12_entryOf_64 ?_
        exact w_ireturn dX12_entryOf_65 rfl k
      · replace k := k.2 c
        refine w_iload dX12_entryOf_45 rfl ?_
        refine w_if_eq (pc' := 66) dX12_entryOf_47 rfl rfl ⟨fun c => ?_, fun c => ?_⟩
        · replace k := k.1 c
          refine w_iinc (lo' := [some (.ref v0), some (.int v1), some (.int v2), some (.int v3), some (.int v4), some (.int (v5 + (1 : Int32))), some (.int (((30 : Int32) * v1) + v5))]) dX12_entryOf_66 rfl i1_1 rfl ?_
          refine w_goto (pc' := 3) dX12_entryOf_69 rfl rfl ?_
          exact k
        · replace k := k.2 c
          refine w_aload_n dX12_entryOf_50 rfl ?_
          refine w_getR dX12_entryOf_51 f_12_54 t_12_16 g1 ?_
          refine w_iload dX12_entryOf_54 rfl ?_
          refine w_iaload dX12_entryOf_56 g6 g7 ?_
          refine w_iload_n dX12_entryOf_57 rfl ?_
          refine w_ic_le (pc' := 66) dX12_entryOf_58 rfl rfl ⟨fun c => ?_, fun c => ?_⟩
          · replace k := k.1 c
            refine w_iinc (lo' := [some (.ref v0), some (.int v1), some (.int v2), some (.int v3), some (.int v4), some (.int (v5 + (1 : Int32))), some (.int (((30 : Int32) * v1) + v5))]) dX12_entryOf_66 rfl i1_1 rfl ?_
            refine w_goto (pc' := 3) dX12_entryOf_69 rfl rfl ?_
            exact k
          · replace k := k.2 c
            refine w_iload dX12_entryOf_61 rfl ?_
            refine w_iconst dX12_entryOf_63 i1_1 ?_
            refine w_iadd dX12_entryOf_64 ?_
            exact w_ireturn dX12_entryOf_65 rfl k
