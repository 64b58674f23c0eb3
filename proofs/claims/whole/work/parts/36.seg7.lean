/-! ===== segments: what the program does from a place to the next ===== -/
theorem bX12_request_0 {d : Nat} {h : HP} {Q : Out → HP → Prop} {v0 : Nat} {v1 : Int32} {v2 : Int32} {v3 : Int32} {v4 : Int32} {u5 : Option Value} {u6 : Option Value} {u7 : Option Value} {u8 : Option Value} {u9 : Option Value} {u10 : Option Value} (k : (1 < v0) ∧ ((hK h v0 = 12) ∧ (WP d mX12_isMachine 0 [some (.ref v0), some (.int v1)] [] h (KK d mX12_request mX12_isMachine 2 [some (.ref v0), some (.int v1), some (.int v2), some (.int v3), some (.int v4), u5, u6, u7, u8, u9, u10] [] Q)))) : WP (d + 1) mX12_request 0 [some (.ref v0), some (.int v1), some (.int v2), some (.int v3), some (.int v4), u5, u6, u7, u8, u9, u10] [] h Q := by
  refine w_aload_n dX12_request_0 rfl ?_
  refine w_iload_n dX12_request_1 rfl ?_
  obtain ⟨g1, k⟩ := k
  obtain ⟨g2, k⟩ := k
  exact w_virt (as1 := [.int v1, .ref v0]) (as2 := [.ref v0, .int v1]) (rest := []) (lo2 := [some (.ref v0), some (.int v1)]) dX12_request_2 c_12_181 rfl rfl rfl (Nat.le_of_ble_eq_true rfl) (Nat.le_of_ble_eq_true rfl) rfl (Nat.le_of_ble_eq_true rfl) rfl rfl g1 g2 k
theorem bX12_request_5 {d : Nat} {h : HP} {Q : Out → HP → Prop} {v0 : Nat} {v1 : Int32} {v2 : Int32} {v3 : Int32} {v4 : Int32} {u5 : Option Value} {u6 : Option Value} {u7 : Option Value} {u8 : Option Value} {u9 : Option Value} {u10 : Option Value} {s0 : Int32} (k : ((s0 = 0) → WP d mX12_in 0 [some (.int v3), some (.int (1 : Int32)), some (.int (99 : Int32))] [] h (KK d mX12_request mX12_in 28 [some (.ref v0), some (.int v1), some (.int v2), some (.int v3), some (.int v4), some (.int (0 : Int32)), u6, u7, u8, u9, u10] [] Q)) ∧ ((¬ (s0 = 0)) → WP d mX12_in 0 [some (.int v2), some (.int (0 : Int32)), some (.int (3 : Int32))] [] h (KK d mX12_request mX12_in 11 [some (.ref v0), some (.int v1), some (.int v2), some (.int v3), some (.int v4), u5, u6, u7, u8, u9, u10] [] Q))) : WP (d + 1) mX12_request 5 [some (.ref v0), some (.int v1), some (.int v2), some (.int v3), some (.int v4), u5, u6, u7, u8, u9, u10] [.int s0] h Q := by
  refine w_if_eq (pc' := 21) dX12_request_5 rfl rfl ⟨fun c => ?_, fun c => ?_⟩
  · replace k := k.1 c
    refine w_iconst dX12_request_21 i1_0 ?_
    refine w_istore (lo' := [some (.ref v0), some (.int v1), some (.int v2), some (.int v3), some (.int v4), some (.int (0 : Int32)), u6, u7, u8, u9, u10]) dX12_request_22 (ltQ rfl) rfl ?_
    refine w_iload_n dX12_request_24 rfl ?_
    refine w_iconst dX12_request_25 i1_1 ?_
    refine w_bipush dX12_request_26 i2_99 ?_
    exact w_stat (as1 := [.int (99 : Int32), .int (1 : Int32), .int v3]) (as2 := [.int v3, .int (1 : Int32), .int (99 : Int32)]) (rest := []) (lo2 := [some (.int v3), some (.int (1 : Int32)), some (.int (99 : Int32))]) dX12_request_28 c_12_154 rfl rfl rfl (Nat.le_of_ble_eq_true rfl) (Nat.le_of_ble_eq_true rfl) rfl (Nat.le_of_ble_eq_true rfl) rfl k
  · replace k := k.2 c
    refine w_iload_n dX12_request_8 rfl ?_
    refine w_iconst dX12_request_9 i1_0 ?_
    refine w_iconst dX12_request_10 i1_3 ?_
    exact w_stat (as1 := [.int (3 : Int32), .int (0 : Int32), .int v2]) (as2 := [.int v2, .int (0 : Int32), .int (3 : Int32)]) (rest := []) (lo2 := [some (.int v2), some (.int (0 : Int32)), some (.int (3 : Int32))]) dX12_request_11 c_12_154 rfl rfl rfl (Nat.le_of_ble_eq_true rfl) (Nat.le_of_ble_eq_true rfl) rfl (Nat.le_of_ble_eq_true rfl) rfl k
theorem bX12_request_14 {d : Nat} {h : HP} {Q : Out → HP → Prop} {v0 : Nat} {v1 : Int32} {v2 : Int32} {v3 : Int32} {v4 : Int32} {u5 : Option Value} {u6 : Option Value} {u7 : Option Value} {u8 : Option Value} {u9 : Option Value} {u10 : Option Value} {s0 : Int32} (k : ((s0 = 0) → WP d mX12_in 0 [some (.int v3), some (.int (1 : Int32)), some (.int (99 : Int32))] [] h (KK d mX12_request mX12_in 28 [some (.ref v0), some (.int v1), some (.int v2), some (.int v3), some (.int v4), some (.int (0 : Int32)), u6, u7, u8, u9, u10] [] Q)) ∧ ((¬ (s0 = 0)) → WP d mX12_in 0 [some (.int v3), some (.int (1 : Int32)), some (.int (99 : Int32))] [] h (KK d mX12_request mX12_in 28 [some (.ref v0), some (.int v1), some (.int v2), some (.int v3), some (.int v4), some (.int (1 : Int32)), u6, u7, u8, u9, u10] [] Q))) : WP (d + 1) mX12_request 14 [some (.ref v0), some (.int v1), some (.int v2), some (.int v3), some (.int v4), u5, u6, u7, u8, u9, u10] [.int s0] h Q := by
  refine w_if_eq (pc' := 21) dX12_request_14 rfl rfl ⟨fun c => ?_, fun c => ?_⟩
  · replace k := k.1 c
    refine w_iconst dX12_request_21 i1_0 ?_
    refine w_istore (lo' := [some (.ref v0), some (.int v1), some (.int v2), some (.int v3), some (.int v4), some (.int (0 : Int32)), u6, u7, u8, u9, u10]) dX12_request_22 (ltQ rfl) rfl ?_
    refine w_iload_n dX12_request_24 rfl ?_
    refine w_iconst dX12_request_25 i1_1 ?_
    refine w_bipush dX12_request_26 i2_99 ?_
    exact w_stat (as1 := [.int (99 : Int32), .int (1 : Int32), .int v3]) (as2 := [.int v3, .int (1 : Int32), .int (99 : Int32)]) (rest := []) (lo2 := [some (.int v3), some (.int (1 : Int32)), some (.int (99 : Int32))]) dX12_request_28 c_12_154 rfl rfl rfl (Nat.le_of_ble_eq_true rfl) (Nat.le_of_ble_eq_true rfl) rfl (Nat.le_of_ble_eq_true rfl) rfl k
  · replace k := k.2 c
    refine w_iconst dX12_request_17 i1_1 ?_
    refine w_goto (pc' := 22) dX12_request_18 rfl rfl ?_
    refine w_istore (lo' := [some (.ref v0), some (.int v1), some (.int v2), some (.int v3), some (.int v4), some (.int (1 : Int32)), u6, u7, u8, u9, u10]) dX12_request_22 (ltQ rfl) rfl ?_
    refine w_iload_n dX12_request_24 rfl ?_
    refine w_iconst dX12_request_25 i1_1 ?_
    refine w_bipush dX12_request_26 i2_99 ?_
    exact w_stat (as1 := [.int (99 : Int32), .int (1 : Int32), .int v3]) (as2 := [.int v3, .int (1 : Int32), .int (99 : Int32)]) (rest := []) (lo2 := [some (.int v3), some (.int (1 : Int32)), some (.int (99 : Int32))]) dX12_request_28 c_12_154 rfl rfl rfl (Nat.le_of_ble_eq_true rfl) (Nat.le_of_ble_eq_true rfl) rfl (Nat.le_of_ble_eq_true rfl) rfl k
theorem bX12_request_31 {d : Nat} {h : HP} {Q : Out → HP → Prop} {v0 : Nat} {v1 : Int32} {v2 : Int32} {v3 : Int32} {v4 : Int32} {v5 : Int32} {u6 : Option Value} {u7 : Option Value} {u8 : Option Value} {u9 : Option Value} {u10 : Option Value} {s0 : Int32} (k : ((s0 = 0) → WP (d + 1) mX12_request 50 [some (.ref v0), some (.int v1), some (.int v2), some (.int v3), some (.int v4), some (.int v5), u6, u7, u8, u9, u10] [] h Q) ∧ ((¬ (s0 = 0)) → WP d mX12_in 0 [some (.int v4), some (.int (0 : Int32)), some (.int (999 : Int32))] [] h (KK d mX12_request mX12_in 40 [some (.ref v0), some (.int v1), some (.int v2), some (.int v3), some (.int v4), some (.int v5), u6, u7, u8, u9, u10] [] Q))) : WP (d + 1) mX12_request 31 [some (.ref v0), some (.int v1), some (.int v2), some (.int v3), some (.int v4), some (.int v5), u6, u7, u8, u9, u10] [.int s0] h Q := by
  refine w_if_eq (pc' := 50) dX12_request_31 rfl rfl ⟨fun c => ?_, fun c => ?_⟩
  · replace k := k.1 c
    exact k
  · replace k := k.2 c
    refine w_iload dX12_request_34 rfl ?_
    refine w_iconst dX12_request_36 i1_0 ?_
    refine w_sipush dX12_request_37 i3_999 ?_
    exact w_stat (as1 := [.int (999 : Int32), .int (0 : Int32), .int v4]) (as2 := [.int v4, .int (0 : Int32), .int (999 : Int32)]) (rest := []) (lo2 := [some (.int v4), some (.int (0 : Int32)), some (.int (999 : Int32))]) dX12_request_40 c_12_154 rfl rfl rfl (Nat.le_of_ble_eq_true rfl) (Nat.le_of_ble_eq_true rfl) rfl (Nat.le_of_ble_eq_true rfl) rfl k
theorem bX12_request_43 {d : Nat} {h : HP} {Q : Out → HP → Prop} {v0 : Nat} {v1 : Int32} {v2 : Int32} {v3 : Int32} {v4 : Int32} {v5 : Int32} {u6 : Option Value} {u7 : Option Value} {u8 : Option Value} {u9 : Option Value} {u10 : Option Value} {s0 : Int32} (k : ((s0 = 0) → WP d mX12_request 50 [some (.ref v0), some (.int v1), some (.int v2), some (.int v3), some (.int v4), some (.int v5), u6, u7, u8, u9, u10] [] h Q) ∧ ((¬ (s0 = 0)) → WP d mX12_request 51 [some (.ref v0), some (.int v1), some (.int v2), some (.int v3), some (.int v4), some (.int v5), u6, u7, u8, u9, u10] [.int (1 : Int32)] h Q)) : WP d mX12_request 43 [some (.ref v0), some (.int v1), some (.int v2), some (.int v3), some (.int v4), some (.int v5), u6, u7, u8, u9, u10] [.int s0] h Q := by
  refine w_if_eq (pc' := 50) dX12_request_43 rfl rfl ⟨fun c => ?_, fun c => ?_⟩
  · replace k := k.1 c
    exact k
  · replace k := k.2 c
    refine w_iconst dX12_request_46 i1_1 ?_
    refine w_goto (pc' := 51) dX12_request_47 rfl rfl ?_
    exact k
theorem bX12_request_50 {d : Nat} {h : HP} {Q : Out → HP → Prop} {v0 : Nat} {v1 : Int32} {v2 : Int32} {v3 : Int32} {v4 : Int32} {v5 : Int32} {u6 : Option Value} {u7 : Option Value} {u8 : Option Value} {u9 : Option Value} {u10 : Option Value} (k : WP d mX12_request 51 [some (.ref v0), some (.int v1), some (.int v2), some (.int v3), some (.int v4), some (.int v5), u6, u7, u8, u9, u10] [.int (0 : Int32)] h Q) : WP d mX12_request 50 [some (.ref v0), some (.int v1), some (.int v2), some (.int v3), some (.int v4), some (.int v5), u6, u7, u8, u9, u10] [] h Q := by
  refine w_iconst dX12_request_50 i1_0 ?_
  exact k
theorem bX12_request_51 {d : Nat} {h : HP} {Q : Out → HP → Prop} {v0 : Nat} {v1 : Int32} {v2 : Int32} {v3 : Int32} {v4 : Int32} {v5 : Int32} {u6 : Option Value} {u7 : Option Value} {u8 : Option Value} {u9 : Option Value} {u10 : Option Value} {s0 : Int32} (k : ((v5 = 0) → WP (d + 1) mX12_request 72 [some (.ref v0), some (.int v1), some (.int v2), some (.int v3), some (.int v4), some (.int v5), some (.int s0), u7, u8, u9, u10] [] h Q) ∧ ((¬ (v5 = 0)) → ((s0 = 0) → WP (d + 1) mX12_request 72 [some (.ref v0), some (.int v1), some (.int v2), some (.int v3), some (.int v4), some (.int v5), some (.int s0), u7, u8, u9, u10] [] h Q) ∧ ((¬ (s0 = 0)) → (1 < v0) ∧ ((hK h v0 = 12) ∧ (WP d mX12_actOf 0 [some (.ref v0), some (.int v2), some (.int v3), none] [] h (KK d mX12_request mX12_actOf 66 [some (.ref v0), some (.int v1), some (.int v2), some (.int v3), some (.int v4), some (.int v5), some (.int s0), u7, u8, u9, u10] [] Q)))))) : WP (d + 1) mX12_request 51 [some (.ref v0), some (.int v1), some (.int v2), some (.int v3), some (.int v4), some (.int v5), u6, u7, u8, u9, u10] [.int s0] h Q := by
  refine w_istore (lo' := [some (.ref v0), some (.int v1), some (.int v2), some (.int v3), some (.int v4), some (.int v5), some (.int s0), u7, u8, u9, u10]) dX12_request_51 (ltQ rfl) rfl ?_
  refine w_iload dX12_request_53 rfl ?_
  refine w_if_eq (pc' := 72) dX12_request_55 rfl rfl ⟨fun c => ?_, fun c => ?_⟩
  · replace k := k.1 c
    exact k
  · replace k := k.2 c
    refine w_iload dX12_request_58 rfl ?_
    refine w_if_eq (pc' := 72) dX12_request_60 rfl rfl ⟨fun c => ?_, fun c => ?_⟩
    · replace k := k.1 c
      exact k
    · replace k := k.2 c
      refine w_aload_n dX12_request_63 rfl ?_
      refine w_iload_n dX12_request_64 rfl ?_
      refine w_iload_n dX12_request_65 rfl ?_
      obtain ⟨g1, k⟩ := k
      obtain ⟨g2, k⟩ := k
      exact w_virt (as1 := [.int v3, .int v2, .ref v0]) (as2 := [.ref v0, .int v2, .int v3]) (rest := []) (lo2 := [some (.ref v0), some (.int v2), some (.int v3), none]) dX12_request_66 c_12_254 rfl rfl rfl (Nat.le_of_ble_eq_true rfl) (Nat.le_of_ble_eq_true rfl) rfl (Nat.le_of_ble_eq_true rfl) rfl rfl g1 g2 k
theorem bX12_request_69 {d : Nat} {h : HP} {Q : Out → HP → Prop} {v0 : Nat} {v1 : Int32} {v2 : Int32} {v3 : Int32} {v4 : Int32} {v5 : Int32} {v6 : Int32} {u7 : Option Value} {u8 : Option Value} {u9 : Option Value} {u10 : Option Value} {s0 : Int32} (k : WP d mX12_request 73 [some (.ref v0), some (.int v1), some (.int v2), some (.int v3), some (.int v4), some (.int v5), some (.int v6), u7, u8, u9, u10] [.int s0] h Q) : WP d mX12_request 69 [some (.ref v0), some (.int v1), some (.int v2), some (.int v3), some (.int v4), some (.int v5), some (.int v6), u7, u8, u9, u10] [.int s0] h Q := by
  refine w_goto (pc' := 73) dX12_request_69 rfl rfl ?_
  exact k
theorem bX12_request_72 {d : Nat} {h : HP} {Q : Out → HP → Prop} {v0 : Nat} {v1 : Int32} {v2 : Int32} {v3 : Int32} {v4 : Int32} {v5 : Int32} {v6 : Int32} {u7 : Option Value} {u8 : Option Value} {u9 : Option Value} {u10 : Option Value} (k : WP d mX12_request 73 [some (.ref v0), some (.int v1), some (.int v2), some (.int v3), some (.int v4), some (.int v5), some (.int v6), u7, u8, u9, u10] [.int (-1 : Int32)] h Q) : WP d mX12_request 72 [some (.ref v0), some (.int v1), some (.int v2), some (.int v3), some (.int v4), some (.int v5), some (.int v6), u7, u8, u9, u10] [] h Q := by
  refine w_iconst dX12_request_72 i1_m1 ?_
  exact k
theorem bX12_request_73 {d : Nat} {h : HP} {Q : Out → HP → Prop} {v0 : Nat} {v1 : Int32} {v2 : Int32} {v3 : Int32} {v4 : Int32} {v5 : Int32} {v6 : Int32} {u7 : Option Value} {u8 : Option Value} {u9 : Option Value} {u10 : Option Value} {s0 : Int32} (k : ((v6 = 0) → WP d mX12_request 102 [some (.ref v0), some (.int v1), some (.int v2), some (.int v3), some (.int v4), some (.int v5), some (.int v6), some (.int s0), u8, u9, u10] [] h Q) ∧ ((¬ (v6 = 0)) → ((s0 = (-1 : Int32)) → WP d mX12_request 98 [some (.ref v0), some (.int v1), some (.int v2), some (.int v3), some (.int v4), some (.int v5), some (.int v6), some (.int s0), u8, u9, u10] [] h Q) ∧ ((¬ (s0 = (-1 : Int32))) → (hK h v0 = 12) ∧ ((hK h (hR h 1244 v0) = 20) ∧ ((inA h (hR h 1244 v0) s0 = true) ∧ (((¬ (hAI h (hR h 1244 v0) (s0).toNatClampNeg) = v4) → WP d mX12_request 102 [some (.ref v0), some (.int v1), some (.int v2), some (.int v3), some (.int v4), some (.int v5), some (.int v6), some (.int s0), u8, u9, u10] [] h Q) ∧ ((¬ (¬ (hAI h (hR h 1244 v0) (s0).toNatClampNeg) = v4)) → WP d mX12_request 98 [some (.ref v0), some (.int v1), some (.int v2), some (.int v3), some (.int v4), some (.int v5), some (.int v6), some (.int s0), u8, u9, u10] [] h Q))))))) : WP d mX12_request 73 [some (.ref v0), some (.int v1), some (.int v2), some (.int v3), some (.int v4), some (.int v5), some (.int v6), u7, u8, u9, u10] [.int s0] h Q := by
  refine w_istore (lo' := [some (.ref v0), some (.int v1), some (.int v2), some (.int v3), some (.int v4), some (.int v5), some (.int v6), some (.int s0), u8, u9, u10]) dX12_request_73 (ltQ rfl) rfl ?_
  refine w_iload dX12_request_75 rfl ?_
  refine w_if_eq (pc' := 102) dX12_request_77 rfl rfl ⟨fun c => ?_, fun c => ?_⟩
  · replace k := k.1 c
    exact k
  · replace k := k.2 c
    refine w_iload dX12_request_80 rfl ?_
    refine w_iconst dX12_request_82 i1_m1 ?_
    refine w_ic_eq (pc' := 98) dX12_request_83 rfl rfl ⟨fun c => ?_, fun c => ?_⟩
    · replace k := k.1 c
      exact k
    · replace k := k.2 c
      refine w_aload_n dX12_request_86 rfl ?_
      obtain ⟨g1, k⟩ := k
      refine w_getR dX12_request_87 f_12_132 t_12_44 g1 ?_
      refine w_iload dX12_request_90 rfl ?_
      obtain ⟨g2, k⟩ := k
      obtain ⟨g3, k⟩ := k
      refine w_iaload dX12_request_92 g2 g3 ?_
      refine w_iload dX12_request_93 rfl ?_
      refine w_ic_ne (pc' := 102) dX12_request_95 rfl rfl ⟨fun c => ?_, fun c => ?_⟩
      · replace k := k.1 c
        exact k
      · replace k := k.2 c
        exact k
theorem bX12_request_98 {d : Nat} {h : HP} {Q : Out → HP → Prop} {v0 : Nat} {v1 : Int32} {v2 : Int32} {v3 : Int32} {v4 : Int32} {v5 : Int32} {v6 : Int32} {v7 : Int32} {u8 : Option Value} {u9 : Option Value} {u10 : Option Value} (k : ((v5 = 0) → (1 < v0) ∧ ((hK h v0 = 12) ∧ (WP d mX12_goes 0 [some (.ref v0), some (.int v5), some (.int (1 : Int32)), some (.int (0 : Int32))] [] h (KK d mX12_request mX12_goes 169 [some (.ref v0), some (.int v1), some (.int v2), some (.int v3), some (.int v4), some (.int v5), some (.int (1 : Int32)), some (.int v7), some (.int (0 : Int32)), u9, u10] [] Q)))) ∧ ((¬ (v5 = 0)) → (hK h v0 = 12) ∧ ((hK h (hR h 1205 v0) = 21) ∧ ((inA h (hR h 1205 v0) v1 = true) ∧ ((((hAI h (hR h 1205 v0) (v1).toNatClampNeg) = 0) → (1 < v0) ∧ (WP d mX12_goes 0 [some (.ref v0), some (.int v5), some (.int (1 : Int32)), some (.int (0 : Int32))] [] h (KK d mX12_request mX12_goes 169 [some (.ref v0), some (.int v1), some (.int v2), some (.int v3), some (.int v4), some (.int v5), some (.int (1 : Int32)), some (.int v7), some (.int (0 : Int32)), u9, u10] [] Q))) ∧ ((¬ ((hAI h (hR h 1205 v0) (v1).toNatClampNeg) = 0)) → (hK h (hR h 1211 v0) = 20) ∧ ((inA h (hR h 1211 v0) v1 = true) ∧ (((¬ (hAI h (hR h 1211 v0) (v1).toNatClampNeg) = (2 : Int32)) → (1 < v0) ∧ (WP d mX12_goes 0 [some (.ref v0), some (.int v5), some (.int (1 : Int32)), some (.int (0 : Int32))] [] h (KK d mX12_request mX12_goes 169 [some (.ref v0), some (.int v1), some (.int v2), some (.int v3), some (.int v4), some (.int v5), some (.int (1 : Int32)), some (.int v7), some (.int (0 : Int32)), u9, u10] [] Q))) ∧ ((¬ (¬ (hAI h (hR h 1211 v0) (v1).toNatClampNeg) = (2 : Int32))) → (hK h (hR h 1212 v0) = 20) ∧ ((inA h (hR h 1212 v0) v1 = true) ∧ ((((30 : Int32) ≤ (hAI h (hR h 1212 v0) (v1).toNatClampNeg)) → (1 < v0) ∧ (WP d mX12_goes 0 [some (.ref v0), some (.int v5), some (.int (1 : Int32)), some (.int (0 : Int32))] [] h (KK d mX12_request mX12_goes 169 [some (.ref v0), some (.int v1), some (.int v2), some (.int v3), some (.int v4), some (.int v5), some (.int (1 : Int32)), some (.int v7), some (.int (0 : Int32)), u9, u10] [] Q))) ∧ ((¬ ((30 : Int32) ≤ (hAI h (hR h 1212 v0) (v1).toNatClampNeg))) → ((¬ v7 = (-1 : Int32)) → (1 < v0) ∧ (WP d mX12_goes 0 [some (.ref v0), some (.int v5), some (.int (1 : Int32)), some (.int (1 : Int32))] [] h (KK d mX12_request mX12_goes 169 [some (.ref v0), some (.int v1), some (.int v2), some (.int v3), some (.int v4), some (.int v5), some (.int (1 : Int32)), some (.int v7), some (.int (1 : Int32)), u9, u10] [] Q))) ∧ ((¬ (¬ v7 = (-1 : Int32))) → (((14 : Int32) ≤ (hI h 1247 v0)) → (1 < v0) ∧ (WP d mX12_goes 0 [some (.ref v0), some (.int v5), some (.int (1 : Int32)), some (.int (0 : Int32))] [] h (KK d mX12_request mX12_goes 169 [some (.ref v0), some (.int v1), some (.int v2), some (.int v3), some (.int v4), some (.int v5), some (.int (1 : Int32)), some (.int v7), some (.int (0 : Int32)), u9, u10] [] Q))) ∧ ((¬ ((14 : Int32) ≤ (hI h 1247 v0))) → (1 < v0) ∧ (WP d mX12_goes 0 [some (.ref v0), some (.int v5), some (.int (1 : Int32)), some (.int (1 : Int32))] [] h (KK d mX12_request mX12_goes 169 [some (.ref v0), some (.int v1), some (.int v2), some (.int v3), some (.int v4), some (.int v5), some (.int (1 : Int32)), some (.int v7), some (.int (1 : Int32)), u9, u10] [] Q)))))))))))))))) : WP (d + 1) mX12_request 98 [some (.ref v0), some (.int v1), some (.int v2), some (.int v3), some (.int v4), some (.int v5), some (.int v6), some (.int v7), u8, u9, u10] [] h Q := by
  refine w_iconst dX12_request_98 i1_1 ?_
  refine w_goto (pc' := 103) dX12_request_99 rfl rfl ?_
  refine w_istore (lo' := [some (.ref v0), some (.int v1), some (.int v2), some (.int v3), some (.int v4), some (.int v5), some (.int (1 : Int32)), some (.int v7), u8, u9, u10]) dX12_request_103 (ltQ rfl) rfl ?_
  refine w_iload dX12_request_105 rfl ?_
  refine w_if_eq (pc' := 159) dX12_request_107 rfl rfl ⟨fun c => ?_, fun c => ?_⟩
  · replace k := k.1 c
    refine w_iconst dX12_request_159 i1_0 ?_
    refine w_istore (lo' := [some (.ref v0), some (.int v1), some (.int v2), some (.int v3), some (.int v4), some (.int v5), some (.int (1 : Int32)), some (.int v7), some (.int (0 : Int32)), u9, u10]) dX12_request_160 (ltQ rfl) rfl ?_
    refine w_aload_n dX12_request_162 rfl ?_
    refine w_iload dX12_request_163 rfl ?_
    refine w_iload dX12_request_165 rfl ?_
    refine w_iload dX12_request_167 rfl ?_
    obtain ⟨g1, k⟩ := k
    obtain ⟨g2, k⟩ := k
    exact w_virt (as1 := [.int (0 : Int32), .int (1 : Int32), .int v5, .ref v0]) (as2 := [.ref v0, .int v5, .int (1 : Int32), .int (0 : Int32)]) (rest := []) (lo2 := [some (.ref v0), some (.int v5), some (.int (1 : Int32)), some (.int (0 : Int32))]) dX12_request_169 c_12_173 rfl rfl rfl (Nat.le_of_ble_eq_true rfl) (Nat.le_of_ble_eq_true rfl) rfl (Nat.le_of_ble_eq_true rfl) rfl rfl g1 g2 k
  · replace k := k.2 c
    refine w_aload_n dX12_request_110 rfl ?_
    obtain ⟨g3, k⟩ := k
    refine w_getR dX12_request_111 f_12_18 t_12_5 g3 ?_
    refine w_iload_n dX12_request_114 rfl ?_
    obtain ⟨g4, k⟩ := k
    obtain ⟨g5, k⟩ := k
    refine w_baload dX12_request_115 g4 g5 ?_
    refine w_if_eq (pc' := 159) dX12_request_116 rfl rfl ⟨fun c => ?_, fun c => ?_⟩
    · replace k := k.1 c
      refine w_iconst dX12_request_159 i1_0 ?_
      refine w_istore (lo' := [some (.ref v0), some (.int v1), some (.int v2), some (.int v3), some (.int v4), some (.int v5), some (.int (1 : Int32)), some (.int v7), some (.int (0 : Int32)), u9, u10]) dX12_request_160 (ltQ rfl) rfl ?_
      refine w_aload_n dX12_request_162 rfl ?_
      refine w_iload dX12_request_163 rfl ?_
      refine w_iload dX12_request_165 rfl ?_
      refine w_iload dX12_request_167 rfl ?_
      obtain ⟨g6, k⟩ := k
      exact w_virt (as1 := [.int (0 : Int32), .int (1 : Int32), .int v5, .ref v0]) (as2 := [.ref v0, .int v5, .int (1 : Int32), .int (0 : Int32)]) (rest := []) (lo2 := [some (.ref v0), some (.int v5), some (.int (1 : Int32)), some (.int (0 : Int32))]) dX12_request_169 c_12_173 rfl rfl rfl (Nat.le_of_ble_eq_true rfl) (Nat.le_of_ble_eq_true rfl) rfl (Nat.le_of_ble_eq_true rfl) rfl rfl g6 g3 k
    · replace k := k.2 c
      refine w_aload_n dX12_request_119 rfl ?_
      refine w_getR dX12_request_120 f_12_39 t_12_11 g3 ?_
      refine w_iload_n dX12_request_123 rfl ?_
      obtain ⟨g7, k⟩ := k
      obtain ⟨g8, k⟩ := k
      refine w_iaload dX12_request_124 g7 g8 ?_
      refine w_iconst dX12_request_125 i1_2 ?_
      refine w_ic_ne (pc' := 159) dX12_request_126 rfl rfl ⟨fun c => ?_, fun c => ?_⟩
      · replace k := k.1 c
        refine w_iconst dX12_request_159 i1_0 ?_
        refine w_istore (lo' := [some (.ref v0), some (.int v1), some (.int v2), some (.int v3), some (.int v4), some (.int v5), some (.int (1 : Int32)), some (.int v7), some (.int (0 : Int32)), u9, u10]) dX12_request_160 (ltQ rfl) rfl ?_
        refine w_aload_n dX12_request_162 rfl ?_
        refine w_iload dX12_request_163 rfl ?_
        refine w_iload dX12_request_165 rfl ?_
        refine w_iload dX12_request_167 rfl ?_
        obtain ⟨g9, k⟩ := k
        exact w_virt (as1 := [.int (0 : Int32), .int (1 : Int32), .int v5, .ref v0]) (as2 := [.ref v0, .int v5, .int (1 : Int32), .int (0 : Int32)]) (rest := []) (lo2 := [some (.ref v0), some (.int v5), some (.int (1 : Int32)), some (.int (0 : Int32))]) dX12_request_169 c_12_173 rfl rfl rfl (Nat.le_of_ble_eq_true rfl) (Nat.le_of_ble_eq_true rfl) rfl (Nat.le_of_ble_eq_true rfl) rfl rfl g9 g3 k
      · replace k := k.2 c
        refine w_aload_n dX12_request_129 rfl ?_
        refine w_getR dX12_request_130 f_12_42 t_12_12 g3 ?_
        refine w_iload_n dX12_request_133 rfl ?_
        obtain ⟨g10, k⟩ := k
        obtain ⟨g11, k⟩ := k
        refine w_iaload dX12_request_134 g10 g11 ?_
        refine w_bipush dX12_request_135 i2_30 ?_
        refine w_ic_ge (pc' := 159) dX12_request_137 rfl rfl ⟨fun c => ?_, fun c => ?_⟩
        · replace k := k.1 c
          refine w_iconst dX12_request_159 i1_0 ?_
          refine w_istore (lo' := [some (.ref v0), some (.int v1), some (.int v2), some (.int v3), some (.int v4), some (.int v5), some (.int (1 : Int32)), some (.int v7), some (.int (0 : Int32)), u9, u10]) dX12_request_160 (ltQ rfl) rfl ?_
          refine w_aload_n dX12_request_162 rfl ?_
          refine w_iload dX12_request_163 rfl ?_
          refine w_iload dX12_request_165 rfl ?_
          refine w_iload dX12_request_167 rfl ?_
          obtain ⟨g12, k⟩ := k
          exact w_virt (as1 := [.int (0 : Int32), .int (1 : Int32), .int v5, .ref v0]) (as2 := [.ref v0, .int v5, .int (1 : Int32), .int (0 : Int32)]) (rest := []) (lo2 := [some (.ref v0), some (.int v5), some (.int (1 : Int32)), some (.int (0 : Int32))]) dX12_request_169 c_12_173 rfl rfl rfl (Nat.le_of_ble_eq_true rfl) (Nat.le_of_ble_eq_true rfl) rfl (Nat.le_of_ble_eq_true rfl) rfl rfl g12 g3 k
        · replace k := k.2 c
          refine w_iload dX12_request_140 rfl ?_
          refine w_iconst dX12_request_142 i1_m1 ?_
          refine w_ic_ne (pc' := 155) dX12_request_143 rfl rfl ⟨fun c => ?_, fun c => ?_⟩
          · replace k := k.1 c
            refine w_iconst dX12_request_155 i1_1 ?_
            refine w_goto (pc' := 160) dX12_request_156 rfl rfl ?_
            refine w_istore (lo' := [some (.ref v0), some (.int v1), some (.int v2), some (.int v3), some (.int v4), some (.int v5), some (.int (1 : Int32)), some (.int v7), some (.int (1 : Int32)), u9, u10]) dX12_request_160 (ltQ rfl) rfl ?_
            refine w_aload_n dX12_request_162 rfl ?_
            refine w_iload dX12_request_163 rfl ?_
            refine w_iload dX12_request_165 rfl ?_
            refine w_iload dX12_request_167 rfl ?_
            obtain ⟨g13, k⟩ := k
            exact w_virt (as1 := [.int (1 : Int32), .int (1 : Int32), .int v5, .ref v0]) (as2 := [.ref v0, .int v5, .int (1 : Int32), .int (1 : Int32)]) (rest := []) (lo2 := [some (.ref v0), some (.int v5), some (.int (1 : Int32)), some (.int (1 : Int32))]) dX12_request_169 c_12_173 rfl rfl rfl (Nat.le_of_ble_eq_true rfl) (Nat.le_of_ble_eq_true rfl) rfl (Nat.le_of_ble_eq_true rfl) rfl rfl g13 g3 k
          · replace k := k.2 c
            refine w_aload_n dX12_request_146 rfl ?_
            refine w_getI dX12_request_147 f_12_170 t_12_47 g3 ?_
            refine w_bipush dX12_request_150 i2_14 ?_
            refine w_ic_ge (pc' := 159) dX12_request_152 rfl rfl ⟨fun c => ?_, fun c => ?_⟩
            · replace k := k.1 c
              refine w_iconst dX12_request_159 i1_0 ?_
              refine w_istore (lo' := [some (.ref v0), some (.int v1), some (.int v2), some (.int v3), some (.int v4), some (.int v5), some (.int (1 : Int32)), some (.int v7), some (.int (0 : Int32)), u9, u10]) dX12_request_160 (ltQ rfl) rfl ?_
              refine w_aload_n dX12_request_162 rfl ?_
              refine w_iload dX12_request_163 rfl ?_
              refine w_iload dX12_request_165 rfl ?_
              refine w_iload dX12_request_167 rfl ?_
              obtain ⟨g14, k⟩ := k
              exact w_virt (as1 := [.int (0 : Int32), .int (1 : Int32), .int v5, .ref v0]) (as2 := [.ref v0, .int v5, .int (1 : Int32), .int (0 : Int32)]) (rest := []) (lo2 := [some (.ref v0), some (.int v5), some (.int (1 : Int32)), some (.int (0 : Int32))]) dX12_request_169 c_12_173 rfl rfl rfl (Nat.le_of_ble_eq_true rfl) (Nat.le_of_ble_eq_true rfl) rfl (Nat.le_of_ble_eq_true rfl) rfl rfl g14 g3 k
            · replace k := k.2 c
              refine w_iconst dX12_request_155 i1_1 ?_
              refine w_goto (pc' := 160) dX12_request_156 rfl rfl ?_
              refine w_istore (lo' := [some (.ref v0), some (.int v1), some (.int v2), some (.int v3), some (.int v4), some (.int v5), some (.int (1 : Int32)), some (.int v7), some (.int (1 : Int32)), u9, u10]) dX12_request_160 (ltQ rfl) rfl ?_
              refine w_aload_n dX12_request_162 rfl ?_
              refine w_iload dX12_request_163 rfl ?_
              refine w_iload dX12_request_165 rfl ?_
              refine w_iload dX12_request_167 rfl ?_
              obtain ⟨g15, k⟩ := k
              exact w_virt (as1 := [.int (1 : Int32), .int (1 : Int32), .int v5, .ref v0]) (as2 := [.ref v0, .int v5, .int (1 : Int32), .int (1 : Int32)]) (rest := []) (lo2 := [some (.ref v0), some (.int v5), some (.int (1 : Int32)), some (.int (1 : Int32))]) dX12_request_169 c_12_173 rfl rfl rfl (Nat.le_of_ble_eq_true rfl) (Nat.le_of_ble_eq_true rfl) rfl (Nat.le_of_ble_eq_true rfl) rfl rfl g15 g3 k
theorem bX12_request_102 {d : Nat} {h : HP} {Q : Out → HP → Prop} {v0 : Nat} {v1 : Int32} {v2 : Int32} {v3 : Int32} {v4 : Int32} {v5 : Int32} {v6 : Int32} {v7 : Int32} {u8 : Option Value} {u9 : Option Value} {u10 : Option Value} (k : ((v5 = 0) → (1 < v0) ∧ ((hK h v0 = 12) ∧ (WP d mX12_goes 0 [some (.ref v0), some (.int v5), some (.int (0 : Int32)), some (.int (0 : Int32))] [] h (KK d mX12_request mX12_goes 169 [some (.ref v0), some (.int v1), some (.int v2), some (.int v3), some (.int v4), some (.int v5), some (.int (0 : Int32)), some (.int v7), some (.int (0 : Int32)), u9, u10] [] Q)))) ∧ ((¬ (v5 = 0)) → (hK h v0 = 12) ∧ ((hK h (hR h 1205 v0) = 21) ∧ ((inA h (hR h 1205 v0) v1 = true) ∧ ((((hAI h (hR h 1205 v0) (v1).toNatClampNeg) = 0) → (1 < v0) ∧ (WP d mX12_goes 0 [some (.ref v0), some (.int v5), some (.int (0 : Int32)), some (.int (0 : Int32))] [] h (KK d mX12_request mX12_goes 169 [some (.ref v0), some (.int v1), some (.int v2), some (.int v3), some (.int v4), some (.int v5), some (.int (0 : Int32)), some (.int v7), some (.int (0 : Int32)), u9, u10] [] Q))) ∧ ((¬ ((hAI h (hR h 1205 v0) (v1).toNatClampNeg) = 0)) → (hK h (hR h 1211 v0) = 20) ∧ ((inA h (hR h 1211 v0) v1 = true) ∧ (((¬ (hAI h (hR h 1211 v0) (v1).toNatClampNeg) = (2 : Int32)) → (1 < v0) ∧ (WP d mX12_goes 0 [some (.ref v0), some (.int v5), some (.int (0 : Int32)), some (.int (0 : Int32))] [] h (KK d mX12_request mX12_goes 169 [some (.ref v0), some (.int v1), some (.int v2), some (.int v3), some (.int v4), some (.int v5), some (.int (0 : Int32)), some (.int v7), some (.int (0 : Int32)), u9, u10] [] Q))) ∧ ((¬ (¬ (hAI h (hR h 1211 v0) (v1).toNatClampNeg) = (2 : Int32))) → (hK h (hR h 1212 v0) = 20) ∧ ((inA h (hR h 1212 v0) v1 = true) ∧ ((((30 : Int32) ≤ (hAI h (hR h 1212 v0) (v1).toNatClampNeg)) → (1 < v0) ∧ (WP d mX12_goes 0 [some (.ref v0), some (.int v5), some (.int (0 : Int32)), some (.int (0 : Int32))] [] h (KK d mX12_request mX12_goes 169 [some (.ref v0), some (.int v1), some (.int v2), some (.int v3), some (.int v4), some (.int v5), some (.int (0 : Int32)), some (.int v7), some (.int (0 : Int32)), u9, u10] [] Q))) ∧ ((¬ ((30 : Int32) ≤ (hAI h (hR h 1212 v0) (v1).toNatClampNeg))) → ((¬ v7 = (-1 : Int32)) → (1 < v0) ∧ (WP d mX12_goes 0 [some (.ref v0), some (.int v5), some (.int (0 : Int32)), some (.int (1 : Int32))] [] h (KK d mX12_request mX12_goes 169 [some (.ref v0), some (.int v1), some (.int v2), some (.int v3), some (.int v4), some (.int v5), some (.int (0 : Int32)), some (.int v7), some (.int (1 : Int32)), u9, u10] [] Q))) ∧ ((¬ (¬ v7 = (-1 : Int32))) → (((14 : Int32) ≤ (hI h 1247 v0)) → (1 < v0) ∧ (WP d mX12_goes 0 [some (.ref v0), some (.int v5), some (.int (0 : Int32)), some (.int (0 : Int32))] [] h (KK d mX12_request mX12_goes 169 [some (.ref v0), some (.int v1), some (.int v2), some (.int v3), some (.int v4), some (.int v5), some (.int (0 : Int32)), some (.int v7), some (.int (0 : Int32)), u9, u10] [] Q))) ∧ ((¬ ((14 : Int32) ≤ (hI h 1247 v0))) → (1 < v0) ∧ (WP d mX12_goes 0 [some (.ref v0), some (.int v5), some (.int (0 : Int32)), some (.int (1 : Int32))] [] h (KK d mX12_request mX12_goes 169 [some (.ref v0), some (.int v1), some (.int v2), some (.int v3), some (.int v4), some (.int v5), some (.int (0 : Int32)), some (.int v7), some (.int (1 : Int32)), u9, u10] [] Q)))))))))))))))) : WP (d + 1) mX12_request 102 [some (.ref v0), some (.int v1), some (.int v2), some (.int v3), some (.int v4), some (.int v5), some (.int v6), some (.int v7), u8, u9, u10] [] h Q := by
  refine w_iconst dX12_request_102 i1_0 ?_
  refine w_istore (lo' := [some (.ref v0), some (.int v1), some (.int v2), some (.int v3), some (.int v4), some (.int v5), some (.int (0 : Int32)), some (.int v7), u8, u9, u10]) dX12_request_103 (ltQ rfl) rfl ?_
  refine w_iload dX12_request_105 rfl ?_
  refine w_if_eq (pc' := 159) dX12_request_107 rfl rfl ⟨fun c => ?_, fun c => ?_⟩
  · replace k := k.1 c
    refine w_iconst dX12_request_159 i1_0 ?_
    refine w_istore (lo' := [some (.ref v0), some (.int v1), some (.int v2), some (.int v3), some (.int v4), some (.int v5), some (.int (0 : Int32)), some (.int v7), some (.int (0 : Int32)), u9, u10]) dX12_request_160 (ltQ rfl) rfl ?_
    refine w_aload_n dX12_request_162 rfl ?_
    refine w_iload dX12_request_163 rfl ?_
    refine w_iload dX12_request_165 rfl ?_
    refine w_iload dX12_request_167 rfl ?_
    obtain ⟨g1, k⟩ := k
    obtain ⟨g2, k⟩ := k
    exact w_virt (as1 := [.int (0 : Int32), .int (0 : Int32), .int v5, .ref v0]) (as2 := [.ref v0, .int v5, .int (0 : Int32), .int (0 : Int32)]) (rest := []) (lo2 := [some (.ref v0), some (.int v5), some (.int (0 : Int32)), some (.int (0 : Int32))]) dX12_request_169 c_12_173 rfl rfl rfl (Nat.le_of_ble_eq_true rfl) (Nat.le_of_ble_eq_true rfl) rfl (Nat.le_of_ble_eq_true rfl) rfl rfl g1 g2 k
  · replace k := k.2 c
    refine w_aload_n dX12_request_110 rfl ?_
    obtain ⟨g3, k⟩ := k
    refine w_getR dX12_request_111 f_12_18 t_12_5 g3 ?_
    refine w_iload_n dX12_request_114 rfl ?_
    obtain ⟨g4, k⟩ := k
    obtain ⟨g5, k⟩ := k
    refine w_baload dX12_request_115 g4 g5 ?_
    refine w_if_eq (pc' := 159) dX12_request_116 rfl rfl ⟨fun c => ?_, fun c => ?_⟩
    · replace k := k.1 c
      refine w_iconst dX12_request_159 i1_0 ?_
      refine w_istore (lo' := [some (.ref v0), some (.int v1), some (.int v2), some (.int v3), some (.int v4), some (.int v5), some (.int (0 : Int32)), some (.int v7), some (.int (0 : Int32)), u9, u10]) dX12_request_160 (ltQ rfl) rfl ?_
      refine w_aload_n dX12_request_162 rfl ?_
      refine w_iload dX12_request_163 rfl ?_
      refine w_iload dX12_request_165 rfl ?_
      refine w_iload dX12_request_167 rfl ?_
      obtain ⟨g6, k⟩ := k
      exact w_virt (as1 := [.int (0 : Int32), .int (0 : Int32), .int v5, .ref v0]) (as2 := [.ref v0, .int v5, .int (0 : Int32), .int (0 : Int32)]) (rest := []) (lo2 := [some (.ref v0), some (.int v5), some (.int (0 : Int32)), some (.int (0 : Int32))]) dX12_request_169 c_12_173 rfl rfl rfl (Nat.le_of_ble_eq_true rfl) (Nat.le_of_ble_eq_true rfl) rfl (Nat.le_of_ble_eq_true rfl) rfl rfl g6 g3 k
    · replace k := k.2 c
      refine w_aload_n dX12_request_119 rfl ?_
      refine w_getR dX12_request_120 f_12_39 t_12_11 g3 ?_
      refine w_iload_n dX12_request_123 rfl ?_
      obtain ⟨g7, k⟩ := k
      obtain ⟨g8, k⟩ := k
      refine w_iaload dX12_request_124 g7 g8 ?_
      refine w_iconst dX12_request_125 i1_2 ?_
      refine w_ic_ne (pc' := 159) dX12_request_126 rfl rfl ⟨fun c => ?_, fun c => ?_⟩
      · replace k := k.1 c
        refine w_iconst dX12_request_159 i1_0 ?_
        refine w_istore (lo' := [some (.ref v0), some (.int v1), some (.int v2), some (.int v3), some (.int v4), some (.int v5), some (.int (0 : Int32)), some (.int v7), some (.int (0 : Int32)), u9, u10]) dX12_request_160 (ltQ rfl) rfl ?_
        refine w_aload_n dX12_request_162 rfl ?_
        refine w_iload dX12_request_163 rfl ?_
        refine w_iload dX12_request_165 rfl ?_
        refine w_iload dX12_request_167 rfl ?_
        obtain ⟨g9, k⟩ := k
        exact w_virt (as1 := [.int (0 : Int32), .int (0 : Int32), .int v5, .ref v0]) (as2 := [.ref v0, .int v5, .int (0 : Int32), .int (0 : Int32)]) (rest := []) (lo2 := [some (.ref v0), some (.int v5), some (.int (0 : Int32)), some (.int (0 : Int32))]) dX12_request_169 c_12_173 rfl rfl rfl (Nat.le_of_ble_eq_true rfl) (Nat.le_of_ble_eq_true rfl) rfl (Nat.le_of_ble_eq_true rfl) rfl rfl g9 g3 k
      · replace k := k.2 c
        refine w_aload_n dX12_request_129 rfl ?_
        refine w_getR dX12_request_130 f_12_42 t_12_12 g3 ?_
        refine w_iload_n dX12_request_133 rfl ?_
        obtain ⟨g10, k⟩ := k
        obtain ⟨g11, k⟩ := k
        refine w_iaload dX12_request_134 g10 g11 ?_
        refine w_bipush dX12_request_135 i2_30 ?_
        refine w_ic_ge (pc' := 159) dX12_request_137 rfl rfl ⟨fun c => ?_, fun c => ?_⟩
        · replace k := k.1 c
          refine w_iconst dX12_request_159 i1_0 ?_
          refine w_istore (lo' := [some (.ref v0), some (.int v1), some (.int v2), some (.int v3), some (.int v4), some (.int v5), some (.int (0 : Int32)), some (.int v7), some (.int (0 : Int32)), u9, u10]) dX12_request_160 (ltQ rfl) rfl ?_
          refine w_aload_n dX12_request_162 rfl ?_
          refine w_iload dX12_request_163 rfl ?_
          refine w_iload dX12_request_165 rfl ?_
          refine w_iload dX12_request_167 rfl ?_
          obtain ⟨g12, k⟩ := k
          exact w_virt (as1 := [.int (0 : Int32), .int (0 : Int32), .int v5, .ref v0]) (as2 := [.ref v0, .int v5, .int (0 : Int32), .int (0 : Int32)]) (rest := []) (lo2 := [some (.ref v0), some (.int v5), some (.int (0 : Int32)), some (.int (0 : Int32))]) dX12_request_169 c_12_173 rfl rfl rfl (Nat.le_of_ble_eq_true rfl) (Nat.le_of_ble_eq_true rfl) rfl (Nat.le_of_ble_eq_true rfl) rfl rfl g12 g3 k
        · replace k := k.2 c
          refine w_iload dX12_request_140 rfl ?_
          refine w_iconst dX12_request_142 i1_m1 ?_
          refine w_ic_ne (pc' := 155) dX12_request_143 rfl rfl ⟨fun c => ?_, fun c => ?_⟩
          · replace k := k.1 c
            refine w_iconst dX12_request_155 i1_1 ?_
            refine w_goto (pc' := 160) dX12_request_156 rfl rfl ?_
            refine w_istore (lo' := [some (.ref v0), some (.int v1), some (.int v2), some (.int v3), some (.int v4), some (.int v5), some (.int (0 : Int32)), some (.int v7), some (.int (1 : Int32)), u9, u10]) dX12_request_160 (ltQ rfl) rfl ?_
            refine w_aload_n dX12_request_162 rfl ?_
            refine w_iload dX12_request_163 rfl ?_
            refine w_iload dX12_request_165 rfl ?_
            refine w_iload dX12_request_167 rfl ?_
            obtain ⟨g13, k⟩ := k
            exact w_virt (as1 := [.int (1 : Int32), .int (0 : Int32), .int v5, .ref v0]) (as2 := [.ref v0, .int v5, .int (0 : Int32), .int (1 : Int32)]) (rest := []) (lo2 := [some (.ref v0), some (.int v5), some (.int (0 : Int32)), some (.int (1 : Int32))]) dX12_request_169 c_12_173 rfl rfl rfl (Nat.le_of_ble_eq_true rfl) (Nat.le_of_ble_eq_true rfl) rfl (Nat.le_of_ble_eq_true rfl) rfl rfl g13 g3 k
          · replace k := k.2 c
            refine w_aload_n dX12_request_146 rfl ?_
            refine w_getI dX12_request_147 f_12_170 t_12_47 g3 ?_
            refine w_bipush dX12_request_150 i2_14 ?_
            refine w_ic_ge (pc' := 159) dX12_request_152 rfl rfl ⟨fun c => ?_, fun c => ?_⟩
            · replace k := k.1 c
              refine w_iconst dX12_request_159 i1_0 ?_
              refine w_istore (lo' := [some (.ref v0), some (.int v1), some (.int v2), some (.int v3), some (.int v4), some (.int v5), some (.int (0 : Int32)), some (.int v7), some (.int (0 : Int32)), u9, u10]) dX12_request_160 (ltQ rfl) rfl ?_
              refine w_aload_n dX12_request_162 rfl ?_
              refine w_iload dX12_request_163 rfl ?_
              refine w_iload dX12_request_165 rfl ?_
              refine w_iload dX12_request_167 rfl ?_
              obtain ⟨g14, k⟩ := k
              exact w_virt (as1 := [.int (0 : Int32), .int (0 : Int32), .int v5, .ref v0]) (as2 := [.ref v0, .int v5, .int (0 : Int32), .int (0 : Int32)]) (rest := []) (lo2 := [some (.ref v0), some (.int v5), some (.int (0 : Int32)), some (.int (0 : Int32))]) dX12_request_169 c_12_173 rfl rfl rfl (Nat.le_of_ble_eq_true rfl) (Nat.le_of_ble_eq_true rfl) rfl (Nat.le_of_ble_eq_true rfl) rfl rfl g14 g3 k
            · replace k := k.2 c
              refine w_iconst dX12_request_155 i1_1 ?_
              refine w_goto (pc' := 160) dX12_request_156 rfl rfl ?_
              refine w_istore (lo' := [some (.ref v0), some (.int v1), some (.int v2), some (.int v3), some (.int v4), some (.int v5), some (.int (0 : Int32)), some (.int v7), some (.int (1 : Int32)), u9, u10]) dX12_request_160 (ltQ rfl) rfl ?_
              refine w_aload_n dX12_request_162 rfl ?_
              refine w_iload dX12_request_163 rfl ?_
              refine w_iload dX12_request_165 rfl ?_
              refine w_iload dX12_request_167 rfl ?_
              obtain ⟨g15, k⟩ := k
              exact w_virt (as1 := [.int (1 : Int32), .int (0 : Int32), .int v5, .ref v0]) (as2 := [.ref v0, .int v5, .int (0 : Int32), .int (1 : Int32)]) (rest := []) (lo2 := [some (.ref v0), some (.int v5), some (.int (0 : Int32)), some (.int (1 : Int32))]) dX12_request_169 c_12_173 rfl rfl rfl (Nat.le_of_ble_eq_true rfl) (Nat.le_of_ble_eq_true rfl) rfl (Nat.le_of_ble_eq_true rfl) rfl rfl g15 g3 k
theorem bX12_request_172 {d : Nat} {h : HP} {Q : Out → HP → Prop} {v0 : Nat} {v1 : Int32} {v2 : Int32} {v3 : Int32} {v4 : Int32} {v5 : Int32} {v6 : Int32} {v7 : Int32} {v8 : Int32} {u9 : Option Value} {u10 : Option Value} {s0 : Int32} (k : ((¬ s0 = 0) → (hK h v0 = 12) ∧ (((¬ v7 = (-1 : Int32)) → WP (d + 1) mX12_request 206 [some (.ref v0), some (.int v1), some (.int v2), some (.int v3), some (.int v4), some (.int v5), some (.int v6), some (.int v7), some (.int v8), some (.int v1), u10] [] (sI h 1204 v0 ((hI h 1204 v0) + (1 : Int32))) Q) ∧ ((¬ (¬ v7 = (-1 : Int32))) → (1 < v0) ∧ ((hK (sI h 1204 v0 ((hI h 1204 v0) + (1 : Int32))) v0 = 12) ∧ (WP d mX12_acts 0 [some (.ref v0), some (.int (1 : Int32)), some (.int v2), some (.int v3), some (.int v4), some (.int (-1 : Int32))] [] (sI h 1204 v0 ((hI h 1204 v0) + (1 : Int32))) (KK d mX12_request mX12_acts 203 [some (.ref v0), some (.int v1), some (.int v2), some (.int v3), some (.int v4), some (.int v5), some (.int v6), some (.int v7), some (.int v8), some (.int v1), u10] [] Q)))))) ∧ ((¬ (¬ s0 = 0)) → Q (.inl (some (.int (0 : Int32)))) h)) : WP (d + 1) mX12_request 172 [some (.ref v0), some (.int v1), some (.int v2), some (.int v3), some (.int v4), some (.int v5), some (.int v6), some (.int v7), some (.int v8), u9, u10] [.int s0] h Q := by
  refine w_if_ne (pc' := 177) dX12_request_172 rfl rfl ⟨fun c => ?_, fun c => ?_⟩
  · replace k := k.1 c
    refine w_aload_n dX12_request_177 rfl ?_
    refine w_dup dX12_request_178 rfl ?_
    obtain ⟨g1, k⟩ := k
    refine w_getI dX12_request_179 f_12_164 t_12_4 g1 ?_
    refine w_iconst dX12_request_182 i1_1 ?_
    refine w_iadd dX12_request_183 ?_
    refine w_putI dX12_request_184 f_12_164 t_12_4 (pf_nf n_12_4) g1 ?_
    refine w_iload_n dX12_request_187 rfl ?_
    refine w_istore (lo' := [some (.ref v0), some (.int v1), some (.int v2), some (.int v3), some (.int v4), some (.int v5), some (.int v6), some (.int v7), some (.int v8), some (.int v1), u10]) dX12_request_188 (ltQ rfl) rfl ?_
    refine w_iload dX12_request_190 rfl ?_
    refine w_iconst dX12_request_192 i1_m1 ?_
    refine w_ic_ne (pc' := 206) dX12_request_193 rfl rfl ⟨fun c => ?_, fun c => ?_⟩
    · replace k := k.1 c
      exact k
    · replace k := k.2 c
      refine w_aload_n dX12_request_196 rfl ?_
      refine w_iconst dX12_request_197 i1_1 ?_
      refine w_iload_n dX12_request_198 rfl ?_
      refine w_iload_n dX12_request_199 rfl ?_
      refine w_iload dX12_request_200 rfl ?_
      refine w_iconst dX12_request_202 i1_m1 ?_
      obtain ⟨g2, k⟩ := k
      obtain ⟨g3, k⟩ := k
      exact w_virt (as1 := [.int (-1 : Int32), .int v4, .int v3, .int v2, .int (1 : Int32), .ref v0]) (as2 := [.ref v0, .int (1 : Int32), .int v2, .int v3, .int v4, .int (-1 : Int32)]) (rest := []) (lo2 := [some (.ref v0), some (.int (1 : Int32)), some (.int v2), some (.int v3), some (.int v4), some (.int (-1 : Int32))]) dX12_request_203 c_12_257 rfl rfl rfl (Nat.le_of_ble_eq_true rfl) (Nat.le_of_ble_eq_true rfl) rfl (Nat.le_of_ble_eq_true rfl) rfl rfl g2 g3 k
  · replace k := k.2 c
    refine w_iconst dX12_request_175 i1_0 ?_
    exact w_ireturn dX12_request_176 rfl k
theorem bX12_request_206 {d : Nat} {h : HP} {Q : Out → HP → Prop} {v0 : Nat} {v1 : Int32} {v2 : Int32} {v3 : Int32} {v4 : Int32} {v5 : Int32} {v6 : Int32} {v7 : Int32} {v8 : Int32} {v9 : Int32} {u10 : Option Value} (k : (1 < v0) ∧ ((hK h v0 = 12) ∧ (WP d mX12_entryOf 0 [some (.ref v0), some (.int v9), some (.int v2), some (.int v3), some (.int (1 : Int32)), none, none] [] h (KK d mX12_request mX12_entryOf 212 [some (.ref v0), some (.int v1), some (.int v2), some (.int v3), some (.int v4), some (.int v5), some (.int v6), some (.int v7), some (.int v8), some (.int v9), u10] [] Q)))) : WP (d + 1) mX12_request 206 [some (.ref v0), some (.int v1), some (.int v2), some (.int v3), some (.int v4), some (.int v5), some (.int v6), some (.int v7), some (.int v8), some (.int v9), u10] [] h Q := by
  refine w_aload_n dX12_request_206 rfl ?_
  refine w_iload dX12_request_207 rfl ?_
  refine w_iload_n dX12_request_209 rfl ?_
  refine w_iload_n dX12_request_210 rfl ?_
  refine w_iconst dX12_request_211 i1_1 ?_
  obtain ⟨g1, k⟩ := k
  obtain ⟨g2, k⟩ := k
  exact w_virt (as1 := [.int (1 : Int32), .int v3, .int v2, .int v9, .ref v0]) (as2 := [.ref v0, .int v9, .int v2, .int v3, .int (1 : Int32)]) (rest := []) (lo2 := [some (.ref v0), some (.int v9), some (.int v2), some (.int v3), some (.int (1 : Int32)), none, none]) dX12_request_212 c_12_260 rfl rfl rfl (Nat.le_of_ble_eq_true rfl) (Nat.le_of_ble_eq_true rfl) rfl (Nat.le_of_ble_eq_true rfl) rfl rfl g1 g2 k
theorem bX12_request_215 {d : Nat} {h : HP} {Q : Out → HP → Prop} {v0 : Nat} {v1 : Int32} {v2 : Int32} {v3 : Int32} {v4 : Int32} {v5 : Int32} {v6 : Int32} {v7 : Int32} {v8 : Int32} {v9 : Int32} {u10 : Option Value} {s0 : Int32} (k : ((¬ s0 = 0) → (1 < v0) ∧ ((hK h v0 = 12) ∧ (WP d mX12_ends 0 [some (.ref v0), none] [] h (KK d mX12_request mX12_ends 284 [some (.ref v0), some (.int v1), some (.int v2), some (.int v3), some (.int v4), some (.int v5), some (.int v6), some (.int v7), some (.int v8), some (.int v9), u10] [] Q)))) ∧ ((¬ (¬ s0 = 0)) → (hK h v0 = 12) ∧ ((hK h (hR h 1212 v0) = 20) ∧ ((inA h (hR h 1212 v0) v9 = true) ∧ ((hK h (hR h 1209 v0) = 20) ∧ ((inA h (hR h 1209 v0) v9 = true) ∧ ((hK h (hR h 1214 v0) = 20) ∧ ((inA h (hR h 1214 v0) (((30 : Int32) * v9) + (hAI h (hR h 1212 v0) (v9).toNatClampNeg)) = true) ∧ ((hK (sAI h (hR h 1214 v0) ((((30 : Int32) * v9) + (hAI h (hR h 1212 v0) (v9).toNatClampNeg))).toNatClampNeg (hAI h (hR h 1209 v0) (v9).toNatClampNeg)) v0 = 12) ∧ ((hK (sAI h (hR h 1214 v0) ((((30 : Int32) * v9) + (hAI h (hR h 1212 v0) (v9).toNatClampNeg))).toNatClampNeg (hAI h (hR h 1209 v0) (v9).toNatClampNeg)) (hR (sAI h (hR h 1214 v0) ((((30 : Int32) * v9) + (hAI h (hR h 1212 v0) (v9).toNatClampNeg))).toNatClampNeg (hAI h (hR h 1209 v0) (v9).toNatClampNeg)) 1215 v0) = 20) ∧ ((inA (sAI h (hR h 1214 v0) ((((30 : Int32) * v9) + (hAI h (hR h 1212 v0) (v9).toNatClampNeg))).toNatClampNeg (hAI h (hR h 1209 v0) (v9).toNatClampNeg)) (hR (sAI h (hR h 1214 v0) ((((30 : Int32) * v9) + (hAI h (hR h 1212 v0) (v9).toNatClampNeg))).toNatClampNeg (hAI h (hR h 1209 v0) (v9).toNatClampNeg)) 1215 v0) (((30 : Int32) * v9) + (hAI h (hR h 1212 v0) (v9).toNatClampNeg)) = true) ∧ ((hK (sAI (sAI h (hR h 1214 v0) ((((30 : Int32) * v9) + (hAI h (hR h 1212 v0) (v9).toNatClampNeg))).toNatClampNeg (hAI h (hR h 1209 v0) (v9).toNatClampNeg)) (hR (sAI h (hR h 1214 v0) ((((30 : Int32) * v9) + (hAI h (hR h 1212 v0) (v9).toNatClampNeg))).toNatClampNeg (hAI h (hR h 1209 v0) (v9).toNatClampNeg)) 1215 v0) ((((30 : Int32) * v9) + (hAI h (hR h 1212 v0) (v9).toNatClampNeg))).toNatClampNeg v2) v0 = 12) ∧ (WP (d + 1) mX12_request 259 [some (.ref v0), some (.int v1), some (.int v2), some (.int v3), some (.int v4), some (.int v5), some (.int v6), some (.int v7), some (.int v8), some (.int v9), some (.int (((30 : Int32) * v9) + (hAI h (hR h 1212 v0) (v9).toNatClampNeg)))] [.ref (hR (sAI (sAI h (hR h 1214 v0) ((((30 : Int32) * v9) + (hAI h (hR h 1212 v0) (v9).toNatClampNeg))).toNatClampNeg (hAI h (hR h 1209 v0) (v9).toNatClampNeg)) (hR (sAI h (hR h 1214 v0) ((((30 : Int32) * v9) + (hAI h (hR h 1212 v0) (v9).toNatClampNeg))).toNatClampNeg (hAI h (hR h 1209 v0) (v9).toNatClampNeg)) 1215 v0) ((((30 : Int32) * v9) + (hAI h (hR h 1212 v0) (v9).toNatClampNeg))).toNatClampNeg v2) 1216 v0)] (sAI (sAI h (hR h 1214 v0) ((((30 : Int32) * v9) + (hAI h (hR h 1212 v0) (v9).toNatClampNeg))).toNatClampNeg (hAI h (hR h 1209 v0) (v9).toNatClampNeg)) (hR (sAI h (hR h 1214 v0) ((((30 : Int32) * v9) + (hAI h (hR h 1212 v0) (v9).toNatClampNeg))).toNatClampNeg (hAI h (hR h 1209 v0) (v9).toNatClampNeg)) 1215 v0) ((((30 : Int32) * v9) + (hAI h (hR h 1212 v0) (v9).toNatClampNeg))).toNatClampNeg v2) Q))))))))))))) : WP (d + 1) mX12_request 215 [some (.ref v0), some (.int v1), some (.int v2), some (.int v3), some (.int v4), some (.int v5), some (.int v6), some (.int v7), some (.int v8), some (.int v9), u10] [.int s0] h Q := by
  refine w_if_ne (pc' := 283) dX12_request_215 rfl rfl ⟨fun c => ?_, fun c => ?_⟩
  · replace k := k.1 c
    refine w_aload_n dX12_request_283 rfl ?_
    obtain ⟨g1, k⟩ := k
    obtain ⟨g2, k⟩ := k
    exact w_virt (as1 := [.ref v0]) (as2 := [.ref v0]) (rest := []) (lo2 := [some (.ref v0), none]) dX12_request_284 c_12_187 rfl rfl rfl (Nat.le_of_ble_eq_true rfl) (Nat.le_of_ble_eq_true rfl) rfl (Nat.le_of_ble_eq_true rfl) rfl rfl g1 g2 k
  · replace k := k.2 c
    refine w_bipush dX12_request_218 i2_30 ?_
    refine w_iload dX12_request_220 rfl ?_
    refine w_imul dX12_request_222 ?_
    refine w_aload_n dX12_request_223 rfl ?_
    obtain ⟨g3, k⟩ := k
    refine w_getR dX12_request_224 f_12_42 t_12_12 g3 ?_
    refine w_iload dX12_request_227 rfl ?_
    obtain ⟨g4, k⟩ := k
    obtain ⟨g5, k⟩ := k
    refine w_iaload dX12_request_229 g4 g5 ?_
    refine w_iadd dX12_request_230 ?_
    refine w_istore (lo' := [some (.ref v0), some (.int v1), some (.int v2), some (.int v3), some (.int v4), some (.int v5), some (.int v6), some (.int v7), some (.int v8), some (.int v9), some (.int (((30 : Int32) * v9) + (hAI h (hR h 1212 v0) (v9).toNatClampNeg)))]) dX12_request_231 (ltQ rfl) rfl ?_
    refine w_aload_n dX12_request_233 rfl ?_
    refine w_getR dX12_request_234 f_12_48 t_12_14 g3 ?_
    refine w_iload dX12_request_237 rfl ?_
    refine w_aload_n dX12_request_239 rfl ?_
    refine w_getR dX12_request_240 f_12_32 t_12_9 g3 ?_
    refine w_iload dX12_request_243 rfl ?_
    obtain ⟨g6, k⟩ := k
    obtain ⟨g7, k⟩ := k
    refine w_iaload dX12_request_245 g6 g7 ?_
    obtain ⟨g8, k⟩ := k
    obtain ⟨g9, k⟩ := k
    refine w_iastore dX12_request_246 g8 g9 ?_
    refine w_aload_n dX12_request_247 rfl ?_
    obtain ⟨g10, k⟩ := k
    refine w_getR dX12_request_248 f_12_51 t_12_15 g10 ?_
    refine w_iload dX12_request_251 rfl ?_
    refine w_iload_n dX12_request_253 rfl ?_
    obtain ⟨g11, k⟩ := k
    obtain ⟨g12, k⟩ := k
    refine w_iastore dX12_request_254 g11 g12 ?_
    refine w_aload_n dX12_request_255 rfl ?_
    obtain ⟨g13, k⟩ := k
    refine w_getR dX12_request_256 f_12_54 t_12_16 g13 ?_
    exact k
theorem bX12_request_259 {d : Nat} {h : HP} {Q : Out → HP → Prop} {v0 : Nat} {v1 : Int32} {v2 : Int32} {v3 : Int32} {v4 : Int32} {v5 : Int32} {v6 : Int32} {v7 : Int32} {v8 : Int32} {v9 : Int32} {v10 : Int32} {s0 : Nat} (k : (hK h s0 = 20) ∧ ((inA h s0 v10 = true) ∧ ((hK (sAI h s0 (v10).toNatClampNeg v3) v0 = 12) ∧ ((hK (sAI h s0 (v10).toNatClampNeg v3) (hR (sAI h s0 (v10).toNatClampNeg v3) 1217 v0) = 20) ∧ ((inA (sAI h s0 (v10).toNatClampNeg v3) (hR (sAI h s0 (v10).toNatClampNeg v3) 1217 v0) v10 = true) ∧ ((hK (sAI (sAI h s0 (v10).toNatClampNeg v3) (hR (sAI h s0 (v10).toNatClampNeg v3) 1217 v0) (v10).toNatClampNeg v4) v0 = 12) ∧ ((hK (sAI (sAI h s0 (v10).toNatClampNeg v3) (hR (sAI h s0 (v10).toNatClampNeg v3) 1217 v0) (v10).toNatClampNeg v4) (hR (sAI (sAI h s0 (v10).toNatClampNeg v3) (hR (sAI h s0 (v10).toNatClampNeg v3) 1217 v0) (v10).toNatClampNeg v4) 1212 v0) = 20) ∧ ((inA (sAI (sAI h s0 (v10).toNatClampNeg v3) (hR (sAI h s0 (v10).toNatClampNeg v3) 1217 v0) (v10).toNatClampNeg v4) (hR (sAI (sAI h s0 (v10).toNatClampNeg v3) (hR (sAI h s0 (v10).toNatClampNeg v3) 1217 v0) (v10).toNatClampNeg v4) 1212 v0) v9 = true) ∧ (WP d mX12_request 280 [some (.ref v0), some (.int v1), some (.int v2), some (.int v3), some (.int v4), some (.int v5), some (.int v6), some (.int v7), some (.int v8), some (.int v9), some (.int v10)] [.int (hAI (sAI (sAI h s0 (v10).toNatClampNeg v3) (hR (sAI h s0 (v10).toNatClampNeg v3) 1217 v0) (v10).toNatClampNeg v4) (hR (sAI (sAI h s0 (v10).toNatClampNeg v3) (hR (sAI h s0 (v10).toNatClampNeg v3) 1217 v0) (v10).toNatClampNeg v4) 1212 v0) (v9).toNatClampNeg), .int v9, .ref (hR (sAI (sAI h s0 (v10).toNatClampNeg v3) (hR (sAI h s0 (v10).toNatClampNeg v3) 1217 v0) (v10).toNatClampNeg v4) 1212 v0)] (sAI (sAI h s0 (v10).toNatClampNeg v3) (hR (sAI h s0 (v10).toNatClampNeg v3) 1217 v0) (v10).toNatClampNeg v4) Q))))))))) : WP d mX12_request 259 [some (.ref v0), some (.int v1), some (.int v2), some (.int v3), some (.int v4), some (.int v5), some (.int v6), some (.int v7), some (.int v8), some (.int v9), some (.int v10)] [.ref s0] h Q := by
  refine w_iload dX12_request_259 rfl ?_
  refine w_iload_n dX12_request_261 rfl ?_
  obtain ⟨g1, k⟩ := k
  obtain ⟨g2, k⟩ := k
  refine w_iastore dX12_request_262 g1 g2 ?_
  refine w_aload_n dX12_request_263 rfl ?_
  obtain ⟨g3, k⟩ := k
  refine w_getR dX12_request_264 f_12_57 t_12_17 g3 ?_
  refine w_iload dX12_request_267 rfl ?_
  refine w_iload dX12_request_269 rfl ?_
  obtain ⟨g4, k⟩ := k
  obtain ⟨g5, k⟩ := k
  refine w_iastore dX12_request_271 g4 g5 ?_
  refine w_aload_n dX12_request_272 rfl ?_
  obtain ⟨g6, k⟩ := k
  refine w_getR dX12_request_273 f_12_42 t_12_12 g6 ?_
  refine w_iload dX12_request_276 rfl ?_
  refine w_dup2 dX12_request_278 rfl rfl ?_
  obtain ⟨g7, k⟩ := k
  obtain ⟨g8, k⟩ := k
  refine w_iaload dX12_request_279 g7 g8 ?_
  exact k
theorem bX12_request_280 {d : Nat} {h : HP} {Q : Out → HP → Prop} {v0 : Nat} {v1 : Int32} {v2 : Int32} {v3 : Int32} {v4 : Int32} {v5 : Int32} {v6 : Int32} {v7 : Int32} {v8 : Int32} {v9 : Int32} {v10 : Int32} {s0 : Int32} {s1 : Int32} {s2 : Nat} (k : (hK h s2 = 20) ∧ ((inA h s2 s1 = true) ∧ ((1 < v0) ∧ ((hK (sAI h s2 (s1).toNatClampNeg (s0 + (1 : Int32))) v0 = 12) ∧ (WP d mX12_ends 0 [some (.ref v0), none] [] (sAI h s2 (s1).toNatClampNeg (s0 + (1 : Int32))) (KK d mX12_request mX12_ends 284 [some (.ref v0), some (.int v1), some (.int v2), some (.int v3), some (.int v4), some (.int v5), some (.int v6), some (.int v7), some (.int v8), some (.int v9), some (.int v10)] [] Q)))))) : WP (d + 1) mX12_request 280 [some (.ref v0), some (.int v1), some (.int v2), some (.int v3), some (.int v4), some (.int v5), some (.int v6), some (.int v7), some (.int v8), some (.int v9), some (.int v10)] [.int s0, .int s1, .ref s2] h Q := by
  refine w_iconst dX12_request_280 i1_1 ?_
  refine w_iadd dX12_request_281 ?_
  obtain ⟨g1, k⟩ := k
  obtain ⟨g2, k⟩ := k
  refine w_iastore dX12_request_282 g1 g2 ?_
  refine w_aload_n dX12_request_283 rfl ?_
  obtain ⟨g3, k⟩ := k
  obtain ⟨g4, k⟩ := k
  exact w_virt (as1 := [.ref v0]) (as2 := [.ref v0]) (rest := []) (lo2 := [some (.ref v0), none]) dX12_request_284 c_12_187 rfl rfl rfl (Nat.le_of_ble_eq_true rfl) (Nat.le_of_ble_eq_true rfl) rfl (Nat.le_of_ble_eq_true rfl) rfl rfl g3 g4 k
theorem bX12_request_287 {d : Nat} {h : HP} {Q : Out → HP → Prop} {v0 : Nat} {v1 : Int32} {v2 : Int32} {v3 : Int32} {v4 : Int32} {v5 : Int32} {v6 : Int32} {v7 : Int32} {v8 : Int32} {v9 : Int32} {u10 : Option Value} (k : (1 < v0) ∧ ((hK h v0 = 12) ∧ (WP d mX12_entryOf 0 [some (.ref v0), some (.int v9), some (.int v2), some (.int v3), some (.int (0 : Int32)), none, none] [] h (KK d mX12_request mX12_entryOf 293 [some (.ref v0), some (.int v1), some (.int v2), some (.int v3), some (.int v4), some (.int v5), some (.int v6), some (.int v7), some (.int v8), some (.int v9), u10] [] Q)))) : WP (d + 1) mX12_request 287 [some (.ref v0), some (.int v1), some (.int v2), some (.int v3), some (.int v4), some (.int v5), some (.int v6), some (.int v7), some (.int v8), some (.int v9), u10] [] h Q := by
  refine w_aload_n dX12_request_287 rfl ?_
  refine w_iload dX12_request_288 rfl ?_
  refine w_iload_n dX12_request_290 rfl ?_
  refine w_iload_n dX12_request_291 rfl ?_
  refine w_iconst dX12_request_292 i1_0 ?_
  obtain ⟨g1, k⟩ := k
  obtain ⟨g2, k⟩ := k
  exact w_virt (as1 := [.int (0 : Int32), .int v3, .int v2, .int v9, .ref v0]) (as2 := [.ref v0, .int v9, .int v2, .int v3, .int (0 : Int32)]) (rest := []) (lo2 := [some (.ref v0), some (.int v9), some (.int v2), some (.int v3), some (.int (0 : Int32)), none, none]) dX12_request_293 c_12_260 rfl rfl rfl (Nat.le_of_ble_eq_true rfl) (Nat.le_of_ble_eq_true rfl) rfl (Nat.le_of_ble_eq_true rfl) rfl rfl g1 g2 k
theorem bX12_request_296 {d : Nat} {h : HP} {Q : Out → HP → Prop} {v0 : Nat} {v1 : Int32} {v2 : Int32} {v3 : Int32} {v4 : Int32} {v5 : Int32} {v6 : Int32} {v7 : Int32} {v8 : Int32} {v9 : Int32} {u10 : Option Value} {s0 : Int32} (k : Q (.inl (some (.int s0))) h) : WP d mX12_request 296 [some (.ref v0), some (.int v1), some (.int v2), some (.int v3), some (.int v4), some (.int v5), some (.int v6), some (.int v7), some (.int v8), some (.int v9), u10] [.int s0] h Q := by
  exact w_ireturn dX12_request_296 rfl k
theorem bX12_valueOf_0 {d : Nat} {h : HP} {Q : Out → HP → Prop} {v0 : Nat} {v1 : Int32} {u2 : Option Value} {u3 : Option Value} {u4 : Option Value} {u5 : Option Value} {u6 : Option Value} (k : WP d mX12_valueOf 4 [some (.ref v0), some (.int v1), some (.int (0 : Int32)), some (.int (0 : Int32)), u4, u5, u6] [] h Q) : WP d mX12_valueOf 0 [some (.ref v0), some (.int v1), u2, u3, u4, u5, u6] [] h Q := by
  refine w_iconst dX12_valueOf_0 i1_0 ?_
  refine w_istore_n (lo' := [some (.ref v0), some (.int v1), some (.int (0 : Int32)), u3, u4, u5, u6]) dX12_valueOf_1 (ltQ rfl) rfl ?_
  refine w_iconst dX12_valueOf_2 i1_0 ?_
  refine w_istore_n (lo' := [some (.ref v0), some (.int v1), some (.int (0 : Int32)), some (.int (0 : Int32)), u4, u5, u6]) dX12_valueOf_3 (ltQ rfl) rfl ?_
  exact k
theorem bX12_valueOf_4 {d : Nat} {h : HP} {Q : Out → HP → Prop} {v0 : Nat} {v1 : Int32} {v2 : Int32} {v3 : Int32} {u4 : Option Value} {u5 : Option Value} {u6 : Option Value} (k : (hK h v0 = 12) ∧ ((hK h (hR h 1213 v0) = 20) ∧ ((inA h (hR h 1213 v0) v1 = true) ∧ ((((hAI h (hR h 1213 v0) (v1).toNatClampNeg) ≤ v3) → Q (.inl (some (.int v2))) h) ∧ ((¬ ((hAI h (hR h 1213 v0) (v1).toNatClampNeg) ≤ v3)) → WP d mX12_valueOf 31 [some (.ref v0), some (.int v1), some (.int v2), some (.int v3), some (.int (((30 : Int32) * v1) + v3)), some (.int (1 : Int32)), some (.int ((30 : Int32) * v1))] [] h Q))))) : WP d mX12_valueOf 4 [some (.ref v0), some (.int v1), some (.int v2), some (.int v3), u4, u5, u6] [] h Q := by
  refine w_iload_n dX12_valueOf_4 rfl ?_
  refine w_aload_n dX12_valueOf_5 rfl ?_
  obtain ⟨g1, k⟩ := k
  refine w_getR dX12_valueOf_6 f_12_45 t_12_13 g1 ?_
  refine w_iload_n dX12_valueOf_9 rfl ?_
  obtain ⟨g2, k⟩ := k
  obtain ⟨g3, k⟩ := k
  refine w_iaload dX12_valueOf_10 g2 g3 ?_
  refine w_ic_ge (pc' := 113) dX12_valueOf_11 rfl rfl ⟨fun c => ?_, fun c => ?_⟩
  · replace k := k.1 c
    refine w_iload_n dX12_valueOf_113 rfl ?_
    exact w_ireturn dX12_valueOf_114 rfl k
  · replace k := k.2 c
    refine w_bipush dX12_valueOf_14 i2_30 ?_
    refine w_iload_n dX12_valueOf_16 rfl ?_
    refine w_imul dX12_valueOf_17 ?_
    refine w_iload_n dX12_valueOf_18 rfl ?_
    refine w_iadd dX12_valueOf_19 ?_
    refine w_istore (lo' := [some (.ref v0), some (.int v1), some (.int v2), some (.int v3), some (.int (((30 : Int32) * v1) + v3)), u5, u6]) dX12_valueOf_20 (ltQ rfl) rfl ?_
    refine w_iconst dX12_valueOf_22 i1_1 ?_
    refine w_istore (lo' := [some (.ref v0), some (.int v1), some (.int v2), some (.int v3), some (.int (((30 : Int32) * v1) + v3)), some (.int (1 : Int32)), u6]) dX12_valueOf_23 (ltQ rfl) rfl ?_
    refine w_bipush dX12_valueOf_25 i2_30 ?_
    refine w_iload_n dX12_valueOf_27 rfl ?_
    refine w_imul dX12_valueOf_28 ?_
    refine w_istore (lo' := [some (.ref v0), some (.int v1), some (.int v2), some (.int v3), some (.int (((30 : Int32) * v1) + v3)), some (.int (1 : Int32)), some (.int ((30 : Int32) * v1))]) dX12_valueOf_29 (ltQ rfl) rfl ?_
    exact k
theorem bX12_valueOf_31 {d : Nat} {h : HP} {Q : Out → HP → Prop} {v0 : Nat} {v1 : Int32} {v2 : Int32} {v3 : Int32} {v4 : Int32} {v5 : Int32} {v6 : Int32} (k : ((v4 ≤ v6) → ((v5 = 0) → WP d mX12_valueOf 4 [some (.ref v0), some (.int v1), some (.int v2), some (.int (v3 + (1 : Int32))), some (.int v4), some (.int v5), some (.int v6)] [] h Q) ∧ ((¬ (v5 = 0)) → (hK h v0 = 12) ∧ ((hK h (hR h 1217 v0) = 20) ∧ ((inA h (hR h 1217 v0) v4 = true) ∧ (WP d mX12_valueOf 4 [some (.ref v0), some (.int v1), some (.int (hAI h (hR h 1217 v0) (v4).toNatClampNeg)), some (.int (v3 + (1 : Int32))), some (.int v4), some (.int v5), some (.int v6)] [] h Q))))) ∧ ((¬ (v4 ≤ v6)) → ((v5 = 0) → WP d mX12_valueOf 31 [some (.ref v0), some (.int v1), some (.int v2), some (.int v3), some (.int v4), some (.int (0 : Int32)), some (.int (v6 + (1 : Int32)))] [] h Q) ∧ ((¬ (v5 = 0)) → (hK h v0 = 12) ∧ ((hK h (hR h 1215 v0) = 20) ∧ ((inA h (hR h 1215 v0) v6 = true) ∧ ((inA h (hR h 1215 v0) v4 = true) ∧ (((¬ (hAI h (hR h 1215 v0) (v6).toNatClampNeg) = (hAI h (hR h 1215 v0) (v4).toNatClampNeg)) → WP d mX12_valueOf 31 [some (.ref v0), some (.int v1), some (.int v2), some (.int v3), some (.int v4), some (.int (1 : Int32)), some (.int (v6 + (1 : Int32)))] [] h Q) ∧ ((¬ (¬ (hAI h (hR h 1215 v0) (v6).toNatClampNeg) = (hAI h (hR h 1215 v0) (v4).toNatClampNeg))) → (hK h (hR h 1216 v0) = 20) ∧ ((inA h (hR h 1216 v0) v6 = true) ∧ ((inA h (hR h 1216 v0) v4 = true) ∧ ((((hAI h (hR h 1216 v0) (v4).toNatClampNeg) ≤ (hAI h (hR h 1216 v0) (v6).toNatClampNeg)) → WP d mX12_valueOf 31 [some (.ref v0), some (.int v1), some (.int v2), some (.int v3), some (.int v4), some (.int (0 : Int32)), some (.int (v6 + (1 : Int32)))] [] h Q) ∧ ((¬ ((hAI h (hR h 1216 v0) (v4).toNatClampNeg) ≤ (hAI h (hR h 1216 v0) (v6).toNatClampNeg))) → WP d mX12_valueOf 31 [some (.ref v0), some (.int v1), some (.int v2), some (.int v3), some (.int v4), some (.int (1 : Int32)), some (.int (v6 + (1 : Int32)))] [] h Q)))))))))))) : WP d mX12_valueOf 31 [some (.ref v0), some (.int v1), some (.int v2), some (.int v3), some (.int v4), some (.int v5), some (.int v6)] [] h Q := by
  refine w_iload dX12_valueOf_31 rfl ?_
  refine w_iload dX12_valueOf_33 rfl ?_
  refine w_ic_ge (pc' := 90) dX12_valueOf_35 rfl rfl ⟨fun c => ?_, fun c => ?_⟩
  · replace k := k.1 c
    refine w_iload dX12_valueOf_90 rfl ?_
    refine w_if_eq (pc' := 105) dX12_valueOf_92 rfl rfl ⟨fun c => ?_, fun c => ?_⟩
    · replace k := k.1 c
      refine w_iload_n dX12_valueOf_105 rfl ?_
      refine w_istore_n (lo' := [some (.ref v0), some (.int v1), some (.int v2), some (.int v3), some (.int v4), some (.int v5), some (.int v6)]) dX12_valueOf_106 (ltQ rfl) rfl ?_
      refine w_iinc (lo' := [some (.ref v0), some (.int v1), some (.int v2), some (.int (v3 + (1 : Int32))), some (.int v4), some (.int v5), some (.int v6)]) dX12_valueOf_107 rfl i1_1 rfl ?_
      refine w_goto (pc' := 4) dX12_valueOf_110 rfl rfl ?_
      exact k
    · replace k := k.2 c
      refine w_aload_n dX12_valueOf_95 rfl ?_
      obtain ⟨g1, k⟩ := k
      refine w_getR dX12_valueOf_96 f_12_57 t_12_17 g1 ?_
      refine w_iload dX12_valueOf_99 rfl ?_
      obtain ⟨g2, k⟩ := k
      obtain ⟨g3, k⟩ := k
      refine w_iaload dX12_valueOf_101 g2 g3 ?_
      refine w_goto (pc' := 106) dX12_valueOf_102 rfl rfl ?_
      refine w_istore_n (lo' := [some (.ref v0), some (.int v1), some (.int (hAI h (hR h 1217 v0) (v4).toNatClampNeg)), some (.int v3), some (.int v4), some (.int v5), some (.int v6)]) dX12_valueOf_106 (ltQ rfl) rfl ?_
      refine w_iinc (lo' := [some (.ref v0), some (.int v1), some (.int (hAI h (hR h 1217 v0) (v4).toNatClampNeg)), some (.int (v3 + (1 : Int32))), some (.int v4), some (.int v5), some (.int v6)]) dX12_valueOf_107 rfl i1_1 rfl ?_
      refine w_goto (pc' := 4) dX12_valueOf_110 rfl rfl ?_
      exact k
  · replace k := k.2 c
    refine w_iload dX12_valueOf_38 rfl ?_
    refine w_if_eq (pc' := 81) dX12_valueOf_40 rfl rfl ⟨fun c => ?_, fun c => ?_⟩
    · replace k := k.1 c
      refine w_iconst dX12_valueOf_81 i1_0 ?_
      refine w_istore (lo' := [some (.ref v0), some (.int v1), some (.int v2), some (.int v3), some (.int v4), some (.int (0 : Int32)), some (.int v6)]) dX12_valueOf_82 (ltQ rfl) rfl ?_
      refine w_iinc (lo' := [some (.ref v0), some (.int v1), some (.int v2), some (.int v3), some (.int v4), some (.int (0 : Int32)), some (.int (v6 + (1 : Int32)))]) dX12_valueOf_84 rfl i1_1 rfl ?_
      refine w_goto (pc' := 31) dX12_valueOf_87 rfl rfl ?_
      exact k
    · replace k := k.2 c
      refine w_aload_n dX12_valueOf_43 rfl ?_
      obtain ⟨g4, k⟩ := k
      refine w_getR dX12_valueOf_44 f_12_51 t_12_15 g4 ?_
      refine w_iload dX12_valueOf_47 rfl ?_
      obtain ⟨g5, k⟩ := k
      obtain ⟨g6, k⟩ := k
      refine w_iaload dX12_valueOf_49 g5 g6 ?_
      refine w_aload_n dX12_valueOf_50 rfl ?_
      refine w_getR dX12_valueOf_51 f_12_51 t_12_15 g4 ?_
      refine w_iload dX12_valueOf_54 rfl ?_
      obtain ⟨g7, k⟩ := k
      refine w_iaload dX12_valueOf_56 g5 g7 ?_
      refine w_ic_ne (pc' := 77) dX12_valueOf_57 rfl rfl ⟨fun c => ?_, fun c => ?_⟩
      · replace k := k.1 c
        refine w_iconst dX12_valueOf_77 i1_1 ?_
        refine w_goto (pc' := 82) dX12_valueOf_78 rfl rfl ?_
        refine w_istore (lo' := [some (.ref v0), some (.int v1), some (.int v2), some (.int v3), some (.int v4), some (.int (1 : Int32)), some (.int v6)]) dX12_valueOf_82 (ltQ rfl) rfl ?_
        refine w_iinc (lo' := [some (.ref v0), some (.int v1), some (.int v2), some (.int v3), some (.int v4), some (.int (1 : Int32)), some (.int (v6 + (1 : Int32)))]) dX12_valueOf_84 rfl i1_1 rfl ?_
        refine w_goto (pc' := 31) dX12_valueOf_87 rfl rfl ?_
        exact k
      · replace k := k.2 c
        refine w_aload_n dX12_valueOf_60 rfl ?_
        refine w_getR dX12_valueOf_61 f_12_54 t_12_16 g4 ?_
        refine w_iload dX12_valueOf_64 rfl ?_
        obtain ⟨g8, k⟩ := k
        obtain ⟨g9, k⟩ := k
        refine w_iaload dX12_valueOf_66 g8 g9 ?_
        refine w_aload_n dX12_valueOf_67 rfl ?_
        refine w_getR dX12_valueOf_68 f_12_54 t_12_16 g4 ?_
        refine w_iload dX12_valueOf_71 rfl ?_
        obtain ⟨g10, k⟩ := k
        refine w_iaload dX12_valueOf_73 g8 g10 ?_
        refine w_ic_ge (pc' := 81) dX12_valueOf_74 rfl rfl ⟨fun c => ?_, fun c => ?_⟩
        · replace k := k.1 c
          refine w_iconst dX12_valueOf_81 i1_0 ?_
          refine w_istore (lo' := [some (.ref v0), some (.int v1), some (.int v2), some (.int v3), some (.int v4), some (.int (0 : Int32)), some (.int v6)]) dX12_valueOf_82 (ltQ rfl) rfl ?_
          refine w_iinc (lo' := [some (.ref v0), some (.int v1), some (.int v2), some (.int v3), some (.int v4), some (.int (0 : Int32)), some (.int (v6 + (1 : Int32)))]) dX12_valueOf_84 rfl i1_1 rfl ?_
          refine w_goto (pc' := 31) dX12_valueOf_87 rfl rfl ?_
          exact k
        · replace k := k.2 c
          refine w_iconst dX12_valueOf_77 i1_1 ?_
          refine w_goto (pc' := 82) dX12_valueOf_78 rfl rfl ?_
          refine w_istore (lo' := [some (.ref v0), some (.int v1), some (.int v2), some (.int v3), some (.int v4), some (.int (1 : Int32)), some (.int v6)]) dX12_valueOf_82 (ltQ rfl) rfl ?_
          refine w_iinc (lo' := [some (.ref v0), some (.int v1), some (.int v2), some (.int v3), some (.int v4), some (.int (1 : Int32)), some (.int (v6 + (1 : Int32)))]) dX12_valueOf_84 rfl i1_1 rfl ?_
          refine w_goto (pc' := 31) dX12_valueOf_87 rfl rfl ?_
          exact k
theorem bX12_holdsLease_0 {d : Nat} {h : HP} {Q : Out → HP → Prop} {v0 : Nat} {v1 : Int32} (k : (hK h v0 = 12) ∧ ((hK h (hR h 1205 v0) = 21) ∧ ((inA h (hR h 1205 v0) v1 = true) ∧ ((((hAI h (hR h 1205 v0) (v1).toNatClampNeg) = 0) → Q (.inl (some (.int (0 : Int32)))) h) ∧ ((¬ ((hAI h (hR h 1205 v0) (v1).toNatClampNeg) = 0)) → (hK h (hR h 1211 v0) = 20) ∧ ((inA h (hR h 1211 v0) v1 = true) ∧ (((¬ (hAI h (hR h 1211 v0) (v1).toNatClampNeg) = (2 : Int32)) → Q (.inl (some (.int (0 : Int32)))) h) ∧ ((¬ (¬ (hAI h (hR h 1211 v0) (v1).toNatClampNeg) = (2 : Int32))) → (hK h (hR h 1223 v0) = 21) ∧ ((inA h (hR h 1223 v0) v1 = true) ∧ ((((hAI h (hR h 1223 v0) (v1).toNatClampNeg) = 0) → Q (.inl (some (.int (0 : Int32)))) h) ∧ ((¬ ((hAI h (hR h 1223 v0) (v1).toNatClampNeg) = 0)) → (hK h (hR h 1207 v0) = 22) ∧ ((inA h (hR h 1207 v0) v1 = true) ∧ ((hK h (hR h 1224 v0) = 22) ∧ ((inA h (hR h 1224 v0) v1 = true) ∧ (((0 ≤ (Op.cmpValue (FP.fcmp (hAF h (hR h 1207 v0) (v1).toNatClampNeg) (hAF h (hR h 1224 v0) (v1).toNatClampNeg)) .g)) → Q (.inl (some (.int (0 : Int32)))) h) ∧ ((¬ (0 ≤ (Op.cmpValue (FP.fcmp (hAF h (hR h 1207 v0) (v1).toNatClampNeg) (hAF h (hR h 1224 v0) (v1).toNatClampNeg)) .g))) → Q (.inl (some (.int (1 : Int32)))) h)))))))))))))))) : WP d mX12_holdsLease 0 [some (.ref v0), some (.int v1)] [] h Q := by
  refine w_aload_n dX12_holdsLease_0 rfl ?_
  obtain ⟨g1, k⟩ := k
  refine w_getR dX12_holdsLease_1 f_12_18 t_12_5 g1 ?_
  refine w_iload_n dX12_holdsLease_4 rfl ?_
  obtain ⟨g2, k⟩ := k
  obtain ⟨g3, k⟩ := k
  refine w_baload dX12_holdsLease_5 g2 g3 ?_
  refine w_if_eq (pc' := 48) dX12_holdsLease_6 rfl rfl ⟨fun c => ?_, fun c => ?_⟩
  · replace k := k.1 c
    refine w_iconst dX12_holdsLease_48 i1_0 ?_
    exact w_ireturn dX12_holdsLease_49 rfl k
  · replace k := k.2 c
    refine w_aload_n dX12_holdsLease_9 rfl ?_
    refine w_getR dX12_holdsLease_10 f_12_39 t_12_11 g1 ?_
    refine w_iload_n dX12_holdsLease_13 rfl ?_
    obtain ⟨g4, k⟩ := k
    obtain ⟨g5, k⟩ := k
    refine w_iaload dX12_holdsLease_14 g4 g5 ?_
    refine w_iconst dX12_holdsLease_15 i1_2 ?_
    refine w_ic_ne (pc' := 48) dX12_holdsLease_16 rfl rfl ⟨fun c => ?_, fun c => ?_⟩
    · replace k := k.1 c
      refine w_iconst dX12_holdsLease_48 i1_0 ?_
      exact w_ireturn dX12_holdsLease_49 rfl k
    · replace k := k.2 c
      refine w_aload_n dX12_holdsLease_19 rfl ?_
      refine w_getR dX12_holdsLease_20 f_12_75 t_12_23 g1 ?_
      refine w_iload_n dX12_holdsLease_23 rfl ?_
      obtain ⟨g6, k⟩ := k
      obtain ⟨g7, k⟩ := k
      refine w_baload dX12_holdsLease_24 g6 g7 ?_
      refine w_if_eq (pc' := 48) dX12_holdsLease_25 rfl rfl ⟨fun c => ?_, fun c => ?_⟩
      · replace k := k.1 c
        refine w_iconst dX12_holdsLease_48 i1_0 ?_
        exact w_ireturn dX12_holdsLease_49 rfl k
      · replace k := k.2 c
        refine w_aload_n dX12_holdsLease_28 rfl ?_
        refine w_getR dX12_holdsLease_29 f_12_25 t_12_7 g1 ?_
        refine w_iload_n dX12_holdsLease_32 rfl ?_
        obtain ⟨g8, k⟩ := k
        obtain ⟨g9, k⟩ := k
        refine w_faload dX12_holdsLease_33 g8 g9 ?_
        refine w_aload_n dX12_holdsLease_34 rfl ?_
        refine w_getR dX12_holdsLease_35 f_12_78 t_12_24 g1 ?_
        refine w_iload_n dX12_holdsLease_38 rfl ?_
        obtain ⟨g10, k⟩ := k
        obtain ⟨g11, k⟩ := k
        refine w_faload dX12_holdsLease_39 g10 g11 ?_
        refine w_fcmp dX12_holdsLease_40 ?_
        refine w_if_ge (pc' := 48) dX12_holdsLease_41 rfl rfl ⟨fun c => ?_, fun c => ?_⟩
        · replace k := k.1 c
          refine w_iconst dX12_holdsLease_48 i1_0 ?_
          exact w_ireturn dX12_holdsLease_49 rfl k
        · replace k := k.2 c
          refine w_iconst dX12_holdsLease_44 i1_1 ?_
          refine w_goto (pc' := 49) dX12_holdsLease_45 rfl rfl ?_
          exact w_ireturn dX12_holdsLease_49 rfl k
theorem bX12_read_0 {d : Nat} {h : HP} {Q : Out → HP → Prop} {v0 : Nat} {v1 : Int32} {u2 : Option Value} {u3 : Option Value} {u4 : Option Value} (k : (1 < v0) ∧ ((hK h v0 = 12) ∧ (WP d mX12_isMachine 0 [some (.ref v0), some (.int v1)] [] h (KK d mX12_read mX12_isMachine 2 [some (.ref v0), some (.int v1), u2, u3, u4] [] Q)))) : WP (d + 1) mX12_read 0 [some (.ref v0), some (.int v1), u2, u3, u4] [] h Q := by
  refine w_aload_n dX12_read_0 rfl ?_
  refine w_iload_n dX12_read_1 rfl ?_
  obtain ⟨g1, k⟩ := k
  obtain ⟨g2, k⟩ := k
  exact w_virt (as1 := [.int v1, .ref v0]) (as2 := [.ref v0, .int v1]) (rest := []) (lo2 := [some (.ref v0), some (.int v1)]) dX12_read_2 c_12_181 rfl rfl rfl (Nat.le_of_ble_eq_true rfl) (Nat.le_of_ble_eq_true rfl) rfl (Nat.le_of_ble_eq_true rfl) rfl rfl g1 g2 k
theorem bX12_read_5 {d : Nat} {h : HP} {Q : Out → HP → Prop} {v0 : Nat} {v1 : Int32} {u2 : Option Value} {u3 : Option Value} {u4 : Option Value} {s0 : Int32} (k : ((s0 = 0) → (1 < v0) ∧ ((hK h v0 = 12) ∧ (WP d mX12_goes 0 [some (.ref v0), some (.int s0), some (.int (0 : Int32)), some (.int (1 : Int32))] [] h (KK d mX12_read mX12_goes 66 [some (.ref v0), some (.int v1), some (.int s0), some (.int (0 : Int32)), u4] [] Q)))) ∧ ((¬ (s0 = 0)) → (1 < v0) ∧ ((hK h v0 = 12) ∧ (WP d mX12_holdsLease 0 [some (.ref v0), some (.int v1)] [] h (KK d mX12_read mX12_holdsLease 12 [some (.ref v0), some (.int v1), some (.int s0), u3, u4] [] Q))))) : WP (d + 1) mX12_read 5 [some (.ref v0), some (.int v1), u2, u3, u4] [.int s0] h Q := by
  refine w_istore_n (lo' := [some (.ref v0), some (.int v1), some (.int s0), u3, u4]) dX12_read_5 (ltQ rfl) rfl ?_
  refine w_iload_n dX12_read_6 rfl ?_
  refine w_if_eq (pc' := 60) dX12_read_7 rfl rfl ⟨fun c => ?_, fun c => ?_⟩
  · replace k := k.1 c
    refine w_iconst dX12_read_60 i1_0 ?_
    refine w_istore_n (lo' := [some (.ref v0), some (.int v1), some (.int s0), some (.int (0 : Int32)), u4]) dX12_read_61 (ltQ rfl) rfl ?_
    refine w_aload_n dX12_read_62 rfl ?_
    refine w_iload_n dX12_read_63 rfl ?_
    refine w_iload_n dX12_read_64 rfl ?_
    refine w_iconst dX12_read_65 i1_1 ?_
    obtain ⟨g1, k⟩ := k
    obtain ⟨g2, k⟩ := k
    exact w_virt (as1 := [.int (1 : Int32), .int (0 : Int32), .int s0, .ref v0]) (as2 := [.ref v0, .int s0, .int (0 : Int32), .int (1 : Int32)]) (rest := []) (lo2 := [some (.ref v0), some (.int s0), some (.int (0 : Int32)), some (.int (1 : Int32))]) dX12_read_66 c_12_173 rfl rfl rfl (Nat.le_of_ble_eq_true rfl) (Nat.le_of_ble_eq_true rfl) rfl (Nat.le_of_ble_eq_true rfl) rfl rfl g1 g2 k
  · replace k := k.2 c
    refine w_aload_n dX12_read_10 rfl ?_
    refine w_iload_n dX12_read_11 rfl ?_
    obtain ⟨g3, k⟩ := k
    obtain ⟨g4, k⟩ := k
    exact w_virt (as1 := [.int v1, .ref v0]) (as2 := [.ref v0, .int v1]) (rest := []) (lo2 := [some (.ref v0), some (.int v1)]) dX12_read_12 c_12_264 rfl rfl rfl (Nat.le_of_ble_eq_true rfl) (Nat.le_of_ble_eq_true rfl) rfl (Nat.le_of_ble_eq_true rfl) rfl rfl g3 g4 k
theorem bX12_read_15 {d : Nat} {h : HP} {Q : Out → HP → Prop} {v0 : Nat} {v1 : Int32} {v2 : Int32} {u3 : Option Value} {u4 : Option Value} {s0 : Int32} (k : ((s0 = 0) → (1 < v0) ∧ ((hK h v0 = 12) ∧ (WP d mX12_goes 0 [some (.ref v0), some (.int v2), some (.int (0 : Int32)), some (.int (1 : Int32))] [] h (KK d mX12_read mX12_goes 66 [some (.ref v0), some (.int v1), some (.int v2), some (.int (0 : Int32)), u4] [] Q)))) ∧ ((¬ (s0 = 0)) → (hK h v0 = 12) ∧ ((hK h (hR h 1213 v0) = 20) ∧ ((inA h (hR h 1213 v0) v1 = true) ∧ ((((hAI h (hR h 1213 v0) (v1).toNatClampNeg) ≤ 0) → (1 < v0) ∧ (WP d mX12_goes 0 [some (.ref v0), some (.int v2), some (.int (0 : Int32)), some (.int (1 : Int32))] [] h (KK d mX12_read mX12_goes 66 [some (.ref v0), some (.int v1), some (.int v2), some (.int (0 : Int32)), u4] [] Q))) ∧ ((¬ ((hAI h (hR h 1213 v0) (v1).toNatClampNeg) ≤ 0)) → (1 < v0) ∧ (WP d mX12_termAt 0 [some (.ref v0), some (.int v1), some (.int (hAI h (hR h 1213 v0) (v1).toNatClampNeg))] [] h (KK d mX12_read mX12_termAt 35 [some (.ref v0), some (.int v1), some (.int v2), u3, u4] [] Q)))))))) : WP (d + 1) mX12_read 15 [some (.ref v0), some (.int v1), some (.int v2), u3, u4] [.int s0] h Q := by
  refine w_if_eq (pc' := 60) dX12_read_15 rfl rfl ⟨fun c => ?_, fun c => ?_⟩
  · replace k := k.1 c
    refine w_iconst dX12_read_60 i1_0 ?_
    refine w_istore_n (lo' := [some (.ref v0), some (.int v1), some (.int v2), some (.int (0 : Int32)), u4]) dX12_read_61 (ltQ rfl) rfl ?_
    refine w_aload_n dX12_read_62 rfl ?_
    refine w_iload_n dX12_read_63 rfl ?_
    refine w_iload_n dX12_read_64 rfl ?_
    refine w_iconst dX12_read_65 i1_1 ?_
    obtain ⟨g1, k⟩ := k
    obtain ⟨g2, k⟩ := k
    exact w_virt (as1 := [.int (1 : Int32), .int (0 : Int32), .int v2, .ref v0]) (as2 := [.ref v0, .int v2, .int (0 : Int32), .int (1 : Int32)]) (rest := []) (lo2 := [some (.ref v0), some (.int v2), some (.int (0 : Int32)), some (.int (1 : Int32))]) dX12_read_66 c_12_173 rfl rfl rfl (Nat.le_of_ble_eq_true rfl) (Nat.le_of_ble_eq_true rfl) rfl (Nat.le_of_ble_eq_true rfl) rfl rfl g1 g2 k
  · replace k := k.2 c
    refine w_aload_n dX12_read_18 rfl ?_
    obtain ⟨g3, k⟩ := k
    refine w_getR dX12_read_19 f_12_45 t_12_13 g3 ?_
    refine w_iload_n dX12_read_22 rfl ?_
    obtain ⟨g4, k⟩ := k
    obtain ⟨g5, k⟩ := k
    refine w_iaload dX12_read_23 g4 g5 ?_
    refine w_if_le (pc' := 60) dX12_read_24 rfl rfl ⟨fun c => ?_, fun c => ?_⟩
    · replace k := k.1 c
      refine w_iconst dX12_read_60 i1_0 ?_
      refine w_istore_n (lo' := [some (.ref v0), some (.int v1), some (.int v2), some (.int (0 : Int32)), u4]) dX12_read_61 (ltQ rfl) rfl ?_
      refine w_aload_n dX12_read_62 rfl ?_
      refine w_iload_n dX12_read_63 rfl ?_
      refine w_iload_n dX12_read_64 rfl ?_
      refine w_iconst dX12_read_65 i1_1 ?_
      obtain ⟨g6, k⟩ := k
      exact w_virt (as1 := [.int (1 : Int32), .int (0 : Int32), .int v2, .ref v0]) (as2 := [.ref v0, .int v2, .int (0 : Int32), .int (1 : Int32)]) (rest := []) (lo2 := [some (.ref v0), some (.int v2), some (.int (0 : Int32)), some (.int (1 : Int32))]) dX12_read_66 c_12_173 rfl rfl rfl (Nat.le_of_ble_eq_true rfl) (Nat.le_of_ble_eq_true rfl) rfl (Nat.le_of_ble_eq_true rfl) rfl rfl g6 g3 k
    · replace k := k.2 c
      refine w_aload_n dX12_read_27 rfl ?_
      refine w_iload_n dX12_read_28 rfl ?_
      refine w_aload_n dX12_read_29 rfl ?_
      refine w_getR dX12_read_30 f_12_45 t_12_13 g3 ?_
      refine w_iload_n dX12_read_33 rfl ?_
      refine w_iaload dX12_read_34 g4 g5 ?_
      obtain ⟨g7, k⟩ := k
      exact w_virt (as1 := [.int (hAI h (hR h 1213 v0) (v1).toNatClampNeg), .int v1, .ref v0]) (as2 := [.ref v0, .int v1, .int (hAI h (hR h 1213 v0) (v1).toNatClampNeg)]) (rest := []) (lo2 := [some (.ref v0), some (.int v1), some (.int (hAI h (hR h 1213 v0) (v1).toNatClampNeg))]) dX12_read_35 c_12_233 rfl rfl rfl (Nat.le_of_ble_eq_true rfl) (Nat.le_of_ble_eq_true rfl) rfl (Nat.le_of_ble_eq_true rfl) rfl rfl g7 g3 k
theorem bX12_read_38 {d : Nat} {h : HP} {Q : Out → HP → Prop} {v0 : Nat} {v1 : Int32} {v2 : Int32} {u3 : Option Value} {u4 : Option Value} {s0 : Int32} (k : (hK h v0 = 12) ∧ ((hK h (hR h 1209 v0) = 20) ∧ ((inA h (hR h 1209 v0) v1 = true) ∧ (((¬ s0 = (hAI h (hR h 1209 v0) (v1).toNatClampNeg)) → (1 < v0) ∧ (WP d mX12_goes 0 [some (.ref v0), some (.int v2), some (.int (0 : Int32)), some (.int (1 : Int32))] [] h (KK d mX12_read mX12_goes 66 [some (.ref v0), some (.int v1), some (.int v2), some (.int (0 : Int32)), u4] [] Q))) ∧ ((¬ (¬ s0 = (hAI h (hR h 1209 v0) (v1).toNatClampNeg))) → (((14 : Int32) ≤ (hI h 1247 v0)) → (1 < v0) ∧ (WP d mX12_goes 0 [some (.ref v0), some (.int v2), some (.int (0 : Int32)), some (.int (1 : Int32))] [] h (KK d mX12_read mX12_goes 66 [some (.ref v0), some (.int v1), some (.int v2), some (.int (0 : Int32)), u4] [] Q))) ∧ ((¬ ((14 : Int32) ≤ (hI h 1247 v0))) → (1 < v0) ∧ (WP d mX12_goes 0 [some (.ref v0), some (.int v2), some (.int (1 : Int32)), some (.int (1 : Int32))] [] h (KK d mX12_read mX12_goes 66 [some (.ref v0), some (.int v1), some (.int v2), some (.int (1 : Int32)), u4] [] Q)))))))) : WP (d + 1) mX12_read 38 [some (.ref v0), some (.int v1), some (.int v2), u3, u4] [.int s0] h Q := by
  refine w_aload_n dX12_read_38 rfl ?_
  obtain ⟨g1, k⟩ := k
  refine w_getR dX12_read_39 f_12_32 t_12_9 g1 ?_
  refine w_iload_n dX12_read_42 rfl ?_
  obtain ⟨g2, k⟩ := k
  obtain ⟨g3, k⟩ := k
  refine w_iaload dX12_read_43 g2 g3 ?_
  refine w_ic_ne (pc' := 60) dX12_read_44 rfl rfl ⟨fun c => ?_, fun c => ?_⟩
  · replace k := k.1 c
    refine w_iconst dX12_read_60 i1_0 ?_
    refine w_istore_n (lo' := [some (.ref v0), some (.int v1), some (.int v2), some (.int (0 : Int32)), u4]) dX12_read_61 (ltQ rfl) rfl ?_
    refine w_aload_n dX12_read_62 rfl ?_
    refine w_iload_n dX12_read_63 rfl ?_
    refine w_iload_n dX12_read_64 rfl ?_
    refine w_iconst dX12_read_65 i1_1 ?_
    obtain ⟨g4, k⟩ := k
    exact w_virt (as1 := [.int (1 : Int32), .int (0 : Int32), .int v2, .ref v0]) (as2 := [.ref v0, .int v2, .int (0 : Int32), .int (1 : Int32)]) (rest := []) (lo2 := [some (.ref v0), some (.int v2), some (.int (0 : Int32)), some (.int (1 : Int32))]) dX12_read_66 c_12_173 rfl rfl rfl (Nat.le_of_ble_eq_true rfl) (Nat.le_of_ble_eq_true rfl) rfl (Nat.le_of_ble_eq_true rfl) rfl rfl g4 g1 k
  · replace k := k.2 c
    refine w_aload_n dX12_read_47 rfl ?_
    refine w_getI dX12_read_48 f_12_170 t_12_47 g1 ?_
    refine w_bipush dX12_read_51 i2_14 ?_
    refine w_ic_ge (pc' := 60) dX12_read_53 rfl rfl ⟨fun c => ?_, fun c => ?_⟩
    · replace k := k.1 c
      refine w_iconst dX12_read_60 i1_0 ?_
      refine w_istore_n (lo' := [some (.ref v0), some (.int v1), some (.int v2), some (.int (0 : Int32)), u4]) dX12_read_61 (ltQ rfl) rfl ?_
      refine w_aload_n dX12_read_62 rfl ?_
      refine w_iload_n dX12_read_63 rfl ?_
      refine w_iload_n dX12_read_64 rfl ?_
      refine w_iconst dX12_read_65 i1_1 ?_
      obtain ⟨g5, k⟩ := k
      exact w_virt (as1 := [.int (1 : Int32), .int (0 : Int32), .int v2, .ref v0]) (as2 := [.ref v0, .int v2, .int (0 : Int32), .int (1 : Int32)]) (rest := []) (lo2 := [some (.ref v0), some (.int v2), some (.int (0 : Int32)), some (.int (1 : Int32))]) dX12_read_66 c_12_173 rfl rfl rfl (Nat.le_of_ble_eq_true rfl) (Nat.le_of_ble_eq_true rfl) rfl (Nat.le_of_ble_eq_true rfl) rfl rfl g5 g1 k
    · replace k := k.2 c
      refine w_iconst dX12_read_56 i1_1 ?_
      refine w_goto (pc' := 61) dX12_read_57 rfl rfl ?_
      refine w_istore_n (lo' := [some (.ref v0), some (.int v1), some (.int v2), some (.int (1 : Int32)), u4]) dX12_read_61 (ltQ rfl) rfl ?_
      refine w_aload_n dX12_read_62 rfl ?_
      refine w_iload_n dX12_read_63 rfl ?_
      refine w_iload_n dX12_read_64 rfl ?_
      refine w_iconst dX12_read_65 i1_1 ?_
      obtain ⟨g6, k⟩ := k
      exact w_virt (as1 := [.int (1 : Int32), .int (1 : Int32), .int v2, .ref v0]) (as2 := [.ref v0, .int v2, .int (1 : Int32), .int (1 : Int32)]) (rest := []) (lo2 := [some (.ref v0), some (.int v2), some (.int (1 : Int32)), some (.int (1 : Int32))]) dX12_read_66 c_12_173 rfl rfl rfl (Nat.le_of_ble_eq_true rfl) (Nat.le_of_ble_eq_true rfl) rfl (Nat.le_of_ble_eq_true rfl) rfl rfl g6 g1 k
theorem bX12_read_69 {d : Nat} {h : HP} {Q : Out → HP → Prop} {v0 : Nat} {v1 : Int32} {v2 : Int32} {v3 : Int32} {u4 : Option Value} {s0 : Int32} (k : ((¬ s0 = 0) → (hK h v0 = 12) ∧ ((1 < v0) ∧ ((hK (sI h 1204 v0 ((hI h 1204 v0) + (1 : Int32))) v0 = 12) ∧ (WP d mX12_valueOf 0 [some (.ref v0), some (.int v1), none, none, none, none, none] [] (sI h 1204 v0 ((hI h 1204 v0) + (1 : Int32))) (KK d mX12_read mX12_valueOf 86 [some (.ref v0), some (.int v1), some (.int v2), some (.int v3), u4] [] Q))))) ∧ ((¬ (¬ s0 = 0)) → Q (.inl (some (.int (0 : Int32)))) h)) : WP (d + 1) mX12_read 69 [some (.ref v0), some (.int v1), some (.int v2), some (.int v3), u4] [.int s0] h Q := by
  refine w_if_ne (pc' := 74) dX12_read_69 rfl rfl ⟨fun c => ?_, fun c => ?_⟩
  · replace k := k.1 c
    refine w_aload_n dX12_read_74 rfl ?_
    refine w_dup dX12_read_75 rfl ?_
    obtain ⟨g1, k⟩ := k
    refine w_getI dX12_read_76 f_12_164 t_12_4 g1 ?_
    refine w_iconst dX12_read_79 i1_1 ?_
    refine w_iadd dX12_read_80 ?_
    refine w_putI dX12_read_81 f_12_164 t_12_4 (pf_nf n_12_4) g1 ?_
    refine w_aload_n dX12_read_84 rfl ?_
    refine w_iload_n dX12_read_85 rfl ?_
    obtain ⟨g2, k⟩ := k
    obtain ⟨g3, k⟩ := k
    exact w_virt (as1 := [.int v1, .ref v0]) (as2 := [.ref v0, .int v1]) (rest := []) (lo2 := [some (.ref v0), some (.int v1), none, none, none, none, none]) dX12_read_86 c_12_267 rfl rfl rfl (Nat.le_of_ble_eq_true rfl) (Nat.le_of_ble_eq_true rfl) rfl (Nat.le_of_ble_eq_true rfl) rfl rfl g2 g3 k
  · replace k := k.2 c
    refine w_iconst dX12_read_72 i1_0 ?_
    exact w_ireturn dX12_read_73 rfl k
theorem bX12_read_89 {d : Nat} {h : HP} {Q : Out → HP → Prop} {v0 : Nat} {v1 : Int32} {v2 : Int32} {v3 : Int32} {u4 : Option Value} {s0 : Int32} (k : (hK h v0 = 12) ∧ ((1 < v0) ∧ (WP d mX12_acts 0 [some (.ref v0), some (.int (0 : Int32)), some (.int (0 : Int32)), some (.int (0 : Int32)), some (.int s0), some (.int (hI h 1204 v0))] [] h (KK d mX12_read mX12_acts 101 [some (.ref v0), some (.int v1), some (.int v2), some (.int v3), some (.int s0)] [] Q)))) : WP (d + 1) mX12_read 89 [some (.ref v0), some (.int v1), some (.int v2), some (.int v3), u4] [.int s0] h Q := by
  refine w_istore (lo' := [some (.ref v0), some (.int v1), some (.int v2), some (.int v3), some (.int s0)]) dX12_read_89 (ltQ rfl) rfl ?_
  refine w_aload_n dX12_read_91 rfl ?_
  refine w_iconst dX12_read_92 i1_0 ?_
  refine w_iconst dX12_read_93 i1_0 ?_
  refine w_iconst dX12_read_94 i1_0 ?_
  refine w_iload dX12_read_95 rfl ?_
  refine w_aload_n dX12_read_97 rfl ?_
  obtain ⟨g1, k⟩ := k
  refine w_getI dX12_read_98 f_12_164 t_12_4 g1 ?_
  obtain ⟨g2, k⟩ := k
  exact w_virt (as1 := [.int (hI h 1204 v0), .int s0, .int (0 : Int32), .int (0 : Int32), .int (0 : Int32), .ref v0]) (as2 := [.ref v0, .int (0 : Int32), .int (0 : Int32), .int (0 : Int32), .int s0, .int (hI h 1204 v0)]) (rest := []) (lo2 := [some (.ref v0), some (.int (0 : Int32)), some (.int (0 : Int32)), some (.int (0 : Int32)), some (.int s0), some (.int (hI h 1204 v0))]) dX12_read_101 c_12_257 rfl rfl rfl (Nat.le_of_ble_eq_true rfl) (Nat.le_of_ble_eq_true rfl) rfl (Nat.le_of_ble_eq_true rfl) rfl rfl g2 g1 k
theorem bX12_read_104 {d : Nat} {h : HP} {Q : Out → HP → Prop} {v0 : Nat} {v1 : Int32} {v2 : Int32} {v3 : Int32} {v4 : Int32} (k : (1 < v0) ∧ ((hK h v0 = 12) ∧ (WP d mX12_ends 0 [some (.ref v0), none] [] h (KK d mX12_read mX12_ends 105 [some (.ref v0), some (.int v1), some (.int v2), some (.int v3), some (.int v4)] [] Q)))) : WP (d + 1) mX12_read 104 [some (.ref v0), some (.int v1), some (.int v2), some (.int v3), some (.int v4)] [] h Q := by
  refine w_aload_n dX12_read_104 rfl ?_
  obtain ⟨g1, k⟩ := k
  obtain ⟨g2, k⟩ := k
  exact w_virt (as1 := [.ref v0]) (as2 := [.ref v0]) (rest := []) (lo2 := [some (.ref v0), none]) dX12_read_105 c_12_187 rfl rfl rfl (Nat.le_of_ble_eq_true rfl) (Nat.le_of_ble_eq_true rfl) rfl (Nat.le_of_ble_eq_true rfl) rfl rfl g1 g2 k
theorem bX12_read_108 {d : Nat} {h : HP} {Q : Out → HP → Prop} {v0 : Nat} {v1 : Int32} {v2 : Int32} {v3 : Int32} {v4 : Int32} (k : Q (.inl (some (.int v4))) h) : WP d mX12_read 108 [some (.ref v0), some (.int v1), some (.int v2), some (.int v3), some (.int v4)] [] h Q := by
  refine w_iload dX12_read_108 rfl ?_
  exact w_ireturn dX12_read_110 rfl k
theorem bX12_propose_0 {d : Nat} {h : HP} {Q : Out → HP → Prop} {v0 : Nat} {v1 : Int32} {v2 : Int32} {v3 : Int32} {u4 : Option Value} {u5 : Option Value} {u6 : Option Value} {u7 : Option Value} {u8 : Option Value} (k : (1 < v0) ∧ ((hK h v0 = 12) ∧ (WP d mX12_isMachine 0 [some (.ref v0), some (.int v1)] [] h (KK d mX12_propose mX12_isMachine 2 [some (.ref v0), some (.int v1), some (.int v2), some (.int v3), u4, u5, u6, u7, u8] [] Q)))) : WP (d + 1) mX12_propose 0 [some (.ref v0), some (.int v1), some (.int v2), some (.int v3), u4, u5, u6, u7, u8] [] h Q := by
  refine w_aload_n dX12_propose_0 rfl ?_
  refine w_iload_n dX12_propose_1 rfl ?_
  obtain ⟨g1, k⟩ := k
  obtain ⟨g2, k⟩ := k
  exact w_virt (as1 := [.int v1, .ref v0]) (as2 := [.ref v0, .int v1]) (rest := []) (lo2 := [some (.ref v0), some (.int v1)]) dX12_propose_2 c_12_181 rfl rfl rfl (Nat.le_of_ble_eq_true rfl) (Nat.le_of_ble_eq_true rfl) rfl (Nat.le_of_ble_eq_true rfl) rfl rfl g1 g2 k
theorem bX12_propose_5 {d : Nat} {h : HP} {Q : Out → HP → Prop} {v0 : Nat} {v1 : Int32} {v2 : Int32} {v3 : Int32} {u4 : Option Value} {u5 : Option Value} {u6 : Option Value} {u7 : Option Value} {u8 : Option Value} {s0 : Int32} (k : ((s0 = 0) → WP d mX12_in 0 [some (.int v3), some (.int (0 : Int32)), some (.int (999 : Int32))] [] h (KK d mX12_propose mX12_in 32 [some (.ref v0), some (.int v1), some (.int v2), some (.int v3), some (.int (0 : Int32)), u5, u6, u7, u8] [.int (0 : Int32), .ref v0] Q)) ∧ ((¬ (s0 = 0)) → WP d mX12_in 0 [some (.int v2), some (.int (0 : Int32)), some (.int (3 : Int32))] [] h (KK d mX12_propose mX12_in 11 [some (.ref v0), some (.int v1), some (.int v2), some (.int v3), u4, u5, u6, u7, u8] [] Q))) : WP (d + 1) mX12_propose 5 [some (.ref v0), some (.int v1), some (.int v2), some (.int v3), u4, u5, u6, u7, u8] [.int s0] h Q := by
  refine w_if_eq (pc' := 21) dX12_propose_5 rfl rfl ⟨fun c => ?_, fun c => ?_⟩
  · replace k := k.1 c
    refine w_iconst dX12_propose_21 i1_0 ?_
    refine w_istore (lo' := [some (.ref v0), some (.int v1), some (.int v2), some (.int v3), some (.int (0 : Int32)), u5, u6, u7, u8]) dX12_propose_22 (ltQ rfl) rfl ?_
    refine w_aload_n dX12_propose_24 rfl ?_
    refine w_iload dX12_propose_25 rfl ?_
    refine w_iload_n dX12_propose_27 rfl ?_
    refine w_iconst dX12_propose_28 i1_0 ?_
    refine w_sipush dX12_propose_29 i3_999 ?_
    exact w_stat (as1 := [.int (999 : Int32), .int (0 : Int32), .int v3]) (as2 := [.int v3, .int (0 : Int32), .int (999 : Int32)]) (rest := [.int (0 : Int32), .ref v0]) (lo2 := [some (.int v3), some (.int (0 : Int32)), some (.int (999 : Int32))]) dX12_propose_32 c_12_154 rfl rfl rfl (Nat.le_of_ble_eq_true rfl) (Nat.le_of_ble_eq_true rfl) rfl (Nat.le_of_ble_eq_true rfl) rfl k
  · replace k := k.2 c
    refine w_iload_n dX12_propose_8 rfl ?_
    refine w_iconst dX12_propose_9 i1_0 ?_
    refine w_iconst dX12_propose_10 i1_3 ?_
    exact w_stat (as1 := [.int (3 : Int32), .int (0 : Int32), .int v2]) (as2 := [.int v2, .int (0 : Int32), .int (3 : Int32)]) (rest := []) (lo2 := [some (.int v2), some (.int (0 : Int32)), some (.int (3 : Int32))]) dX12_propose_11 c_12_154 rfl rfl rfl (Nat.le_of_ble_eq_true rfl) (Nat.le_of_ble_eq_true rfl) rfl (Nat.le_of_ble_eq_true rfl) rfl k
theorem bX12_propose_14 {d : Nat} {h : HP} {Q : Out → HP → Prop} {v0 : Nat} {v1 : Int32} {v2 : Int32} {v3 : Int32} {u4 : Option Value} {u5 : Option Value} {u6 : Option Value} {u7 : Option Value} {u8 : Option Value} {s0 : Int32} (k : ((s0 = 0) → WP d mX12_in 0 [some (.int v3), some (.int (0 : Int32)), some (.int (999 : Int32))] [] h (KK d mX12_propose mX12_in 32 [some (.ref v0), some (.int v1), some (.int v2), some (.int v3), some (.int (0 : Int32)), u5, u6, u7, u8] [.int (0 : Int32), .ref v0] Q)) ∧ ((¬ (s0 = 0)) → WP d mX12_in 0 [some (.int v3), some (.int (0 : Int32)), some (.int (999 : Int32))] [] h (KK d mX12_propose mX12_in 32 [some (.ref v0), some (.int v1), some (.int v2), some (.int v3), some (.int (1 : Int32)), u5, u6, u7, u8] [.int (1 : Int32), .ref v0] Q))) : WP (d + 1) mX12_propose 14 [some (.ref v0), some (.int v1), some (.int v2), some (.int v3), u4, u5, u6, u7, u8] [.int s0] h Q := by
  refine w_if_eq (pc' := 21) dX12_propose_14 rfl rfl ⟨fun c => ?_, fun c => ?_⟩
  · replace k := k.1 c
    refine w_iconst dX12_propose_21 i1_0 ?_
    refine w_istore (lo' := [some (.ref v0), some (.int v1), some (.int v2), some (.int v3), some (.int (0 : Int32)), u5, u6, u7, u8]) dX12_propose_22 (ltQ rfl) rfl ?_
    refine w_aload_n dX12_propose_24 rfl ?_
    refine w_iload dX12_propose_25 rfl ?_
    refine w_iload_n dX12_propose_27 rfl ?_
    refine w_iconst dX12_propose_28 i1_0 ?_
    refine w_sipush dX12_propose_29 i3_999 ?_
    exact w_stat (as1 := [.int (999 : Int32), .int (0 : Int32), .int v3]) (as2 := [.int v3, .int (0 : Int32), .int (999 : Int32)]) (rest := [.int (0 : Int32), .ref v0]) (lo2 := [some (.int v3), some (.int (0 : Int32)), some (.int (999 : Int32))]) dX12_propose_32 c_12_154 rfl rfl rfl (Nat.le_of_ble_eq_true rfl) (Nat.le_of_ble_eq_true rfl) rfl (Nat.le_of_ble_eq_true rfl) rfl k
  · replace k := k.2 c
    refine w_iconst dX12_propose_17 i1_1 ?_
    refine w_goto (pc' := 22) dX12_propose_18 rfl rfl ?_
    refine w_istore (lo' := [some (.ref v0), some (.int v1), some (.int v2), some (.int v3), some (.int (1 : Int32)), u5, u6, u7, u8]) dX12_propose_22 (ltQ rfl) rfl ?_
    refine w_aload_n dX12_propose_24 rfl ?_
    refine w_iload dX12_propose_25 rfl ?_
    refine w_iload_n dX12_propose_27 rfl ?_
    refine w_iconst dX12_propose_28 i1_0 ?_
    refine w_sipush dX12_propose_29 i3_999 ?_
    exact w_stat (as1 := [.int (999 : Int32), .int (0 : Int32), .int v3]) (as2 := [.int v3, .int (0 : Int32), .int (999 : Int32)]) (rest := [.int (1 : Int32), .ref v0]) (lo2 := [some (.int v3), some (.int (0 : Int32)), some (.int (999 : Int32))]) dX12_propose_32 c_12_154 rfl rfl rfl (Nat.le_of_ble_eq_true rfl) (Nat.le_of_ble_eq_true rfl) rfl (Nat.le_of_ble_eq_true rfl) rfl k
theorem bX12_propose_35 {d : Nat} {h : HP} {Q : Out → HP → Prop} {v0 : Nat} {v1 : Int32} {v2 : Int32} {v3 : Int32} {v4 : Int32} {u5 : Option Value} {u6 : Option Value} {u7 : Option Value} {u8 : Option Value} {s0 : Int32} {s1 : Int32} {s2 : Nat} (k : ((v4 = 0) → (1 < s2) ∧ ((hK h s2 = 12) ∧ (WP d mX12_goes 0 [some (.ref s2), some (.int s1), some (.int s0), some (.int (0 : Int32))] [] h (KK d mX12_propose mX12_goes 54 [some (.ref v0), some (.int v1), some (.int v2), some (.int v3), some (.int v4), u5, u6, u7, u8] [] Q)))) ∧ ((¬ (v4 = 0)) → (hK h v0 = 12) ∧ ((hK h (hR h 1205 v0) = 21) ∧ ((inA h (hR h 1205 v0) v1 = true) ∧ ((((hAI h (hR h 1205 v0) (v1).toNatClampNeg) = 0) → (1 < s2) ∧ ((hK h s2 = 12) ∧ (WP d mX12_goes 0 [some (.ref s2), some (.int s1), some (.int s0), some (.int (0 : Int32))] [] h (KK d mX12_propose mX12_goes 54 [some (.ref v0), some (.int v1), some (.int v2), some (.int v3), some (.int v4), u5, u6, u7, u8] [] Q)))) ∧ ((¬ ((hAI h (hR h 1205 v0) (v1).toNatClampNeg) = 0)) → (1 < s2) ∧ ((hK h s2 = 12) ∧ (WP d mX12_goes 0 [some (.ref s2), some (.int s1), some (.int s0), some (.int (1 : Int32))] [] h (KK d mX12_propose mX12_goes 54 [some (.ref v0), some (.int v1), some (.int v2), some (.int v3), some (.int v4), u5, u6, u7, u8] [] Q))))))))) : WP (d + 1) mX12_propose 35 [some (.ref v0), some (.int v1), some (.int v2), some (.int v3), some (.int v4), u5, u6, u7, u8] [.int s0, .int s1, .ref s2] h Q := by
  refine w_iload dX12_propose_35 rfl ?_
  refine w_if_eq (pc' := 53) dX12_propose_37 rfl rfl ⟨fun c => ?_, fun c => ?_⟩
  · replace k := k.1 c
    refine w_iconst dX12_propose_53 i1_0 ?_
    obtain ⟨g1, k⟩ := k
    obtain ⟨g2, k⟩ := k
    exact w_virt (as1 := [.int (0 : Int32), .int s0, .int s1, .ref s2]) (as2 := [.ref s2, .int s1, .int s0, .int (0 : Int32)]) (rest := []) (lo2 := [some (.ref s2), some (.int s1), some (.int s0), some (.int (0 : Int32))]) dX12_propose_54 c_12_173 rfl rfl rfl (Nat.le_of_ble_eq_true rfl) (Nat.le_of_ble_eq_true rfl) rfl (Nat.le_of_ble_eq_true rfl) rfl rfl g1 g2 k
  · replace k := k.2 c
    refine w_aload_n dX12_propose_40 rfl ?_
    obtain ⟨g3, k⟩ := k
    refine w_getR dX12_propose_41 f_12_18 t_12_5 g3 ?_
    refine w_iload_n dX12_propose_44 rfl ?_
    obtain ⟨g4, k⟩ := k
    obtain ⟨g5, k⟩ := k
    refine w_baload dX12_propose_45 g4 g5 ?_
    refine w_if_eq (pc' := 53) dX12_propose_46 rfl rfl ⟨fun c => ?_, fun c => ?_⟩
    · replace k := k.1 c
      refine w_iconst dX12_propose_53 i1_0 ?_
      obtain ⟨g6, k⟩ := k
      obtain ⟨g7, k⟩ := k
      exact w_virt (as1 := [.int (0 : Int32), .int s0, .int s1, .ref s2]) (as2 := [.ref s2, .int s1, .int s0, .int (0 : Int32)]) (rest := []) (lo2 := [some (.ref s2), some (.int s1), some (.int s0), some (.int (0 : Int32))]) dX12_propose_54 c_12_173 rfl rfl rfl (Nat.le_of_ble_eq_true rfl) (Nat.le_of_ble_eq_true rfl) rfl (Nat.le_of_ble_eq_true rfl) rfl rfl g6 g7 k
    · replace k := k.2 c
      refine w_iconst dX12_propose_49 i1_1 ?_
      refine w_goto (pc' := 54) dX12_propose_50 rfl rfl ?_
      obtain ⟨g8, k⟩ := k
      obtain ⟨g9, k⟩ := k
      exact w_virt (as1 := [.int (1 : Int32), .int s0, .int s1, .ref s2]) (as2 := [.ref s2, .int s1, .int s0, .int (1 : Int32)]) (rest := []) (lo2 := [some (.ref s2), some (.int s1), some (.int s0), some (.int (1 : Int32))]) dX12_propose_54 c_12_173 rfl rfl rfl (Nat.le_of_ble_eq_true rfl) (Nat.le_of_ble_eq_true rfl) rfl (Nat.le_of_ble_eq_true rfl) rfl rfl g8 g9 k
theorem bX12_propose_57 {d : Nat} {h : HP} {Q : Out → HP → Prop} {v0 : Nat} {v1 : Int32} {v2 : Int32} {v3 : Int32} {v4 : Int32} {u5 : Option Value} {u6 : Option Value} {u7 : Option Value} {u8 : Option Value} {s0 : Int32} (k : ((¬ s0 = 0) → (hK h v0 = 12) ∧ (WP d mX12_propose 82 [some (.ref v0), some (.int v1), some (.int v2), some (.int v3), some (.int v4), some (.int (((4 : Int32) * v1) + v2)), some (.int v1), u7, u8] [] (sI h 1204 v0 ((hI h 1204 v0) + (1 : Int32))) Q)) ∧ ((¬ (¬ s0 = 0)) → Q (.inl (some (.int (0 : Int32)))) h)) : WP d mX12_propose 57 [some (.ref v0), some (.int v1), some (.int v2), some (.int v3), some (.int v4), u5, u6, u7, u8] [.int s0] h Q := by
  refine w_if_ne (pc' := 62) dX12_propose_57 rfl rfl ⟨fun c => ?_, fun c => ?_⟩
  · replace k := k.1 c
    refine w_aload_n dX12_propose_62 rfl ?_
    refine w_dup dX12_propose_63 rfl ?_
    obtain ⟨g1, k⟩ := k
    refine w_getI dX12_propose_64 f_12_164 t_12_4 g1 ?_
    refine w_iconst dX12_propose_67 i1_1 ?_
    refine w_iadd dX12_propose_68 ?_
    refine w_putI dX12_propose_69 f_12_164 t_12_4 (pf_nf n_12_4) g1 ?_
    refine w_iconst dX12_propose_72 i1_4 ?_
    refine w_iload_n dX12_propose_73 rfl ?_
    refine w_imul dX12_propose_74 ?_
    refine w_iload_n dX12_propose_75 rfl ?_
    refine w_iadd dX12_propose_76 ?_
    refine w_istore (lo' := [some (.ref v0), some (.int v1), some (.int v2), some (.int v3), some (.int v4), some (.int (((4 : Int32) * v1) + v2)), u6, u7, u8]) dX12_propose_77 (ltQ rfl) rfl ?_
    refine w_iload_n dX12_propose_79 rfl ?_
    refine w_istore (lo' := [some (.ref v0), some (.int v1), some (.int v2), some (.int v3), some (.int v4), some (.int (((4 : Int32) * v1) + v2)), some (.int v1), u7, u8]) dX12_propose_80 (ltQ rfl) rfl ?_
    exact k
  · replace k := k.2 c
    refine w_iconst dX12_propose_60 i1_0 ?_
    exact w_ireturn dX12_propose_61 rfl k
theorem bX12_propose_82 {d : Nat} {h : HP} {Q : Out → HP → Prop} {v0 : Nat} {v1 : Int32} {v2 : Int32} {v3 : Int32} {v4 : Int32} {v5 : Int32} {v6 : Int32} {u7 : Option Value} {u8 : Option Value} (k : (hK h v0 = 12) ∧ ((hK h (hR h 1227 v0) = 20) ∧ ((inA h (hR h 1227 v0) v5 = true) ∧ ((((hAI h (hR h 1227 v0) (v5).toNatClampNeg) < v6) → (hK (sAI h (hR h 1227 v0) (v5).toNatClampNeg v6) v0 = 12) ∧ ((hK (sAI h (hR h 1227 v0) (v5).toNatClampNeg v6) (hR (sAI h (hR h 1227 v0) (v5).toNatClampNeg v6) 1231 v0) = 20) ∧ ((inA (sAI h (hR h 1227 v0) (v5).toNatClampNeg v6) (hR (sAI h (hR h 1227 v0) (v5).toNatClampNeg v6) 1231 v0) v5 = true) ∧ ((hK (sAI (sAI h (hR h 1227 v0) (v5).toNatClampNeg v6) (hR (sAI h (hR h 1227 v0) (v5).toNatClampNeg v6) 1231 v0) (v5).toNatClampNeg v6) v0 = 12) ∧ ((hK (sAI (sAI h (hR h 1227 v0) (v5).toNatClampNeg v6) (hR (sAI h (hR h 1227 v0) (v5).toNatClampNeg v6) 1231 v0) (v5).toNatClampNeg v6) (hR (sAI (sAI h (hR h 1227 v0) (v5).toNatClampNeg v6) (hR (sAI h (hR h 1227 v0) (v5).toNatClampNeg v6) 1231 v0) (v5).toNatClampNeg v6) 1228 v0) = 20) ∧ ((inA (sAI (sAI h (hR h 1227 v0) (v5).toNatClampNeg v6) (hR (sAI h (hR h 1227 v0) (v5).toNatClampNeg v6) 1231 v0) (v5).toNatClampNeg v6) (hR (sAI (sAI h (hR h 1227 v0) (v5).toNatClampNeg v6) (hR (sAI h (hR h 1227 v0) (v5).toNatClampNeg v6) 1231 v0) (v5).toNatClampNeg v6) 1228 v0) v5 = true) ∧ (WP d mX12_propose 131 [some (.ref v0), some (.int v1), some (.int v2), some (.int v3), some (.int v4), some (.int v5), some (.int v6), u7, u8] [.int (hAI (sAI (sAI h (hR h 1227 v0) (v5).toNatClampNeg v6) (hR (sAI h (hR h 1227 v0) (v5).toNatClampNeg v6) 1231 v0) (v5).toNatClampNeg v6) (hR (sAI (sAI h (hR h 1227 v0) (v5).toNatClampNeg v6) (hR (sAI h (hR h 1227 v0) (v5).toNatClampNeg v6) 1231 v0) (v5).toNatClampNeg v6) 1228 v0) (v5).toNatClampNeg), .int v5, .ref (hR (sAI (sAI h (hR h 1227 v0) (v5).toNatClampNeg v6) (hR (sAI h (hR h 1227 v0) (v5).toNatClampNeg v6) 1231 v0) (v5).toNatClampNeg v6) 1232 v0)] (sAI (sAI h (hR h 1227 v0) (v5).toNatClampNeg v6) (hR (sAI h (hR h 1227 v0) (v5).toNatClampNeg v6) 1231 v0) (v5).toNatClampNeg v6) Q))))))) ∧ ((¬ ((hAI h (hR h 1227 v0) (v5).toNatClampNeg) < v6)) → WP d mX12_propose 82 [some (.ref v0), some (.int v1), some (.int v2), some (.int v3), some (.int v4), some (.int v5), some (.int (v6 + (8 : Int32))), u7, u8] [] h Q))))) : WP d mX12_propose 82 [some (.ref v0), some (.int v1), some (.int v2), some (.int v3), some (.int v4), some (.int v5), some (.int v6), u7, u8] [] h Q := by
  refine w_iload dX12_propose_82 rfl ?_
  refine w_aload_n dX12_propose_84 rfl ?_
  obtain ⟨g1, k⟩ := k
  refine w_getR dX12_propose_85 f_12_87 t_12_27 g1 ?_
  refine w_iload dX12_propose_88 rfl ?_
  obtain ⟨g2, k⟩ := k
  obtain ⟨g3, k⟩ := k
  refine w_iaload dX12_propose_90 g2 g3 ?_
  refine w_ic_gt (pc' := 100) dX12_propose_91 rfl rfl ⟨fun c => ?_, fun c => ?_⟩
  · replace k := k.1 c
    refine w_aload_n dX12_propose_100 rfl ?_
    refine w_getR dX12_propose_101 f_12_87 t_12_27 g1 ?_
    refine w_iload dX12_propose_104 rfl ?_
    refine w_iload dX12_propose_106 rfl ?_
    refine w_iastore dX12_propose_108 g2 g3 ?_
    refine w_aload_n dX12_propose_109 rfl ?_
    obtain ⟨g4, k⟩ := k
    refine w_getR dX12_propose_110 f_12_99 t_12_31 g4 ?_
    refine w_iload dX12_propose_113 rfl ?_
    refine w_iload dX12_propose_115 rfl ?_
    obtain ⟨g5, k⟩ := k
    obtain ⟨g6, k⟩ := k
    refine w_iastore dX12_propose_117 g5 g6 ?_
    refine w_aload_n dX12_propose_118 rfl ?_
    obtain ⟨g7, k⟩ := k
    refine w_getR dX12_propose_119 f_12_102 t_12_32 g7 ?_
    refine w_iload dX12_propose_122 rfl ?_
    refine w_aload_n dX12_propose_124 rfl ?_
    refine w_getR dX12_propose_125 f_12_90 t_12_28 g7 ?_
    refine w_iload dX12_propose_128 rfl ?_
    obtain ⟨g8, k⟩ := k
    obtain ⟨g9, k⟩ := k
    refine w_iaload dX12_propose_130 g8 g9 ?_
    exact k
  · replace k := k.2 c
    refine w_iinc (lo' := [some (.ref v0), some (.int v1), some (.int v2), some (.int v3), some (.int v4), some (.int v5), some (.int (v6 + (8 : Int32))), u7, u8]) dX12_propose_94 rfl i1_8 rfl ?_
    refine w_goto (pc' := 82) dX12_propose_97 rfl rfl ?_
    exact k
theorem bX12_propose_131 {d : Nat} {h : HP} {Q : Out → HP → Prop} {v0 : Nat} {v1 : Int32} {v2 : Int32} {v3 : Int32} {v4 : Int32} {v5 : Int32} {v6 : Int32} {u7 : Option Value} {u8 : Option Value} {s0 : Int32} {s1 : Int32} {s2 : Nat} (k : ((¬ s0 = (-1 : Int32)) → (hK h v0 = 12) ∧ ((hK h (hR h 1229 v0) = 20) ∧ ((inA h (hR h 1229 v0) v5 = true) ∧ ((hK h s2 = 20) ∧ ((inA h s2 s1 = true) ∧ ((hK (sAI h s2 (s1).toNatClampNeg (hAI h (hR h 1229 v0) (v5).toNatClampNeg)) v0 = 12) ∧ ((hK (sAI h s2 (s1).toNatClampNeg (hAI h (hR h 1229 v0) (v5).toNatClampNeg)) (hR (sAI h s2 (s1).toNatClampNeg (hAI h (hR h 1229 v0) (v5).toNatClampNeg)) 1228 v0) = 20) ∧ ((inA (sAI h s2 (s1).toNatClampNeg (hAI h (hR h 1229 v0) (v5).toNatClampNeg)) (hR (sAI h s2 (s1).toNatClampNeg (hAI h (hR h 1229 v0) (v5).toNatClampNeg)) 1228 v0) v5 = true) ∧ ((hK (sAI h s2 (s1).toNatClampNeg (hAI h (hR h 1229 v0) (v5).toNatClampNeg)) (hR (sAI h s2 (s1).toNatClampNeg (hAI h (hR h 1229 v0) (v5).toNatClampNeg)) 1234 v0) = 20) ∧ ((inA (sAI h s2 (s1).toNatClampNeg (hAI h (hR h 1229 v0) (v5).toNatClampNeg)) (hR (sAI h s2 (s1).toNatClampNeg (hAI h (hR h 1229 v0) (v5).toNatClampNeg)) 1234 v0) v5 = true) ∧ ((hK (sAI (sAI h s2 (s1).toNatClampNeg (hAI h (hR h 1229 v0) (v5).toNatClampNeg)) (hR (sAI h s2 (s1).toNatClampNeg (hAI h (hR h 1229 v0) (v5).toNatClampNeg)) 1234 v0) (v5).toNatClampNeg (hAI (sAI h s2 (s1).toNatClampNeg (hAI h (hR h 1229 v0) (v5).toNatClampNeg)) (hR (sAI h s2 (s1).toNatClampNeg (hAI h (hR h 1229 v0) (v5).toNatClampNeg)) 1228 v0) (v5).toNatClampNeg)) v0 = 12) ∧ (WP d mX12_propose 165 [some (.ref v0), some (.int v1), some (.int v2), some (.int v3), some (.int v4), some (.int v5), some (.int v6), u7, u8] [.ref (hR (sAI (sAI h s2 (s1).toNatClampNeg (hAI h (hR h 1229 v0) (v5).toNatClampNeg)) (hR (sAI h s2 (s1).toNatClampNeg (hAI h (hR h 1229 v0) (v5).toNatClampNeg)) 1234 v0) (v5).toNatClampNeg (hAI (sAI h s2 (s1).toNatClampNeg (hAI h (hR h 1229 v0) (v5).toNatClampNeg)) (hR (sAI h s2 (s1).toNatClampNeg (hAI h (hR h 1229 v0) (v5).toNatClampNeg)) 1228 v0) (v5).toNatClampNeg)) 1233 v0)] (sAI (sAI h s2 (s1).toNatClampNeg (hAI h (hR h 1229 v0) (v5).toNatClampNeg)) (hR (sAI h s2 (s1).toNatClampNeg (hAI h (hR h 1229 v0) (v5).toNatClampNeg)) 1234 v0) (v5).toNatClampNeg (hAI (sAI h s2 (s1).toNatClampNeg (hAI h (hR h 1229 v0) (v5).toNatClampNeg)) (hR (sAI h s2 (s1).toNatClampNeg (hAI h (hR h 1229 v0) (v5).toNatClampNeg)) 1228 v0) (v5).toNatClampNeg)) Q)))))))))))) ∧ ((¬ (¬ s0 = (-1 : Int32))) → (hK h s2 = 20) ∧ ((inA h s2 s1 = true) ∧ ((hK (sAI h s2 (s1).toNatClampNeg v3) v0 = 12) ∧ ((hK (sAI h s2 (s1).toNatClampNeg v3) (hR (sAI h s2 (s1).toNatClampNeg v3) 1228 v0) = 20) ∧ ((inA (sAI h s2 (s1).toNatClampNeg v3) (hR (sAI h s2 (s1).toNatClampNeg v3) 1228 v0) v5 = true) ∧ ((hK (sAI h s2 (s1).toNatClampNeg v3) (hR (sAI h s2 (s1).toNatClampNeg v3) 1234 v0) = 20) ∧ ((inA (sAI h s2 (s1).toNatClampNeg v3) (hR (sAI h s2 (s1).toNatClampNeg v3) 1234 v0) v5 = true) ∧ ((hK (sAI (sAI h s2 (s1).toNatClampNeg v3) (hR (sAI h s2 (s1).toNatClampNeg v3) 1234 v0) (v5).toNatClampNeg (hAI (sAI h s2 (s1).toNatClampNeg v3) (hR (sAI h s2 (s1).toNatClampNeg v3) 1228 v0) (v5).toNatClampNeg)) v0 = 12) ∧ (WP d mX12_propose 165 [some (.ref v0), some (.int v1), some (.int v2), some (.int v3), some (.int v4), some (.int v5), some (.int v6), u7, u8] [.ref (hR (sAI (sAI h s2 (s1).toNatClampNeg v3) (hR (sAI h s2 (s1).toNatClampNeg v3) 1234 v0) (v5).toNatClampNeg (hAI (sAI h s2 (s1).toNatClampNeg v3) (hR (sAI h s2 (s1).toNatClampNeg v3) 1228 v0) (v5).toNatClampNeg)) 1233 v0)] (sAI (sAI h s2 (s1).toNatClampNeg v3) (hR (sAI h s2 (s1).toNatClampNeg v3) 1234 v0) (v5).toNatClampNeg (hAI (sAI h s2 (s1).toNatClampNeg v3) (hR (sAI h s2 (s1).toNatClampNeg v3) 1228 v0) (v5).toNatClampNeg)) Q)))))))))) : WP d mX12_propose 131 [some (.ref v0), some (.int v1), some (.int v2), some (.int v3), some (.int v4), some (.int v5), some (.int v6), u7, u8] [.int s0, .int s1, .ref s2] h Q := by
  refine w_iconst dX12_propose_131 i1_m1 ?_
  refine w_ic_ne (pc' := 139) dX12_propose_132 rfl rfl ⟨fun c => ?_, fun c => ?_⟩
  · replace k := k.1 c
    refine w_aload_n dX12_propose_139 rfl ?_
    obtain ⟨g1, k⟩ := k
    refine w_getR dX12_propose_140 f_12_93 t_12_29 g1 ?_
    refine w_iload dX12_propose_143 rfl ?_
    obtain ⟨g2, k⟩ := k
    obtain ⟨g3, k⟩ := k
    refine w_iaload dX12_propose_145 g2 g3 ?_
    obtain ⟨g4, k⟩ := k
    obtain ⟨g5, k⟩ := k
    refine w_iastore dX12_propose_146 g4 g5 ?_
    refine w_aload_n dX12_propose_147 rfl ?_
    obtain ⟨g6, k⟩ := k
    refine w_getR dX12_propose_148 f_12_108 t_12_34 g6 ?_
    refine w_iload dX12_propose_151 rfl ?_
    refine w_aload_n dX12_propose_153 rfl ?_
    refine w_getR dX12_propose_154 f_12_90 t_12_28 g6 ?_
    refine w_iload dX12_propose_157 rfl ?_
    obtain ⟨g7, k⟩ := k
    obtain ⟨g8, k⟩ := k
    refine w_iaload dX12_propose_159 g7 g8 ?_
    obtain ⟨g9, k⟩ := k
    obtain ⟨g10, k⟩ := k
    refine w_iastore dX12_propose_160 g9 g10 ?_
    refine w_aload_n dX12_propose_161 rfl ?_
    obtain ⟨g11, k⟩ := k
    refine w_getR dX12_propose_162 f_12_105 t_12_33 g11 ?_
    exact k
  · replace k := k.2 c
    refine w_iload_n dX12_propose_135 rfl ?_
    refine w_goto (pc' := 146) dX12_propose_136 rfl rfl ?_
    obtain ⟨g12, k⟩ := k
    obtain ⟨g13, k⟩ := k
    refine w_iastore dX12_propose_146 g12 g13 ?_
    refine w_aload_n dX12_propose_147 rfl ?_
    obtain ⟨g14, k⟩ := k
    refine w_getR dX12_propose_148 f_12_108 t_12_34 g14 ?_
    refine w_iload dX12_propose_151 rfl ?_
    refine w_aload_n dX12_propose_153 rfl ?_
    refine w_getR dX12_propose_154 f_12_90 t_12_28 g14 ?_
    refine w_iload dX12_propose_157 rfl ?_
    obtain ⟨g15, k⟩ := k
    obtain ⟨g16, k⟩ := k
    refine w_iaload dX12_propose_159 g15 g16 ?_
    obtain ⟨g17, k⟩ := k
    obtain ⟨g18, k⟩ := k
    refine w_iastore dX12_propose_160 g17 g18 ?_
    refine w_aload_n dX12_propose_161 rfl ?_
    obtain ⟨g19, k⟩ := k
    refine w_getR dX12_propose_162 f_12_105 t_12_33 g19 ?_
    exact k
theorem bX12_propose_165 {d : Nat} {h : HP} {Q : Out → HP → Prop} {v0 : Nat} {v1 : Int32} {v2 : Int32} {v3 : Int32} {v4 : Int32} {v5 : Int32} {v6 : Int32} {u7 : Option Value} {u8 : Option Value} {s0 : Nat} (k : (hK h s0 = 20) ∧ ((inA h s0 v5 = true) ∧ ((hK (sAI h s0 (v5).toNatClampNeg ((1 : Int32) <<< (v1 &&& 31))) v0 = 12) ∧ ((hK (sAI h s0 (v5).toNatClampNeg ((1 : Int32) <<< (v1 &&& 31))) (hR (sAI h s0 (v5).toNatClampNeg ((1 : Int32) <<< (v1 &&& 31))) 1235 v0) = 21) ∧ ((inA (sAI h s0 (v5).toNatClampNeg ((1 : Int32) <<< (v1 &&& 31))) (hR (sAI h s0 (v5).toNatClampNeg ((1 : Int32) <<< (v1 &&& 31))) 1235 v0) v5 = true) ∧ ((hK (sAI (sAI h s0 (v5).toNatClampNeg ((1 : Int32) <<< (v1 &&& 31))) (hR (sAI h s0 (v5).toNatClampNeg ((1 : Int32) <<< (v1 &&& 31))) 1235 v0) (v5).toNatClampNeg (0 : Int32)) v0 = 12) ∧ ((hK (sAI (sAI h s0 (v5).toNatClampNeg ((1 : Int32) <<< (v1 &&& 31))) (hR (sAI h s0 (v5).toNatClampNeg ((1 : Int32) <<< (v1 &&& 31))) 1235 v0) (v5).toNatClampNeg (0 : Int32)) (hR (sAI (sAI h s0 (v5).toNatClampNeg ((1 : Int32) <<< (v1 &&& 31))) (hR (sAI h s0 (v5).toNatClampNeg ((1 : Int32) <<< (v1 &&& 31))) 1235 v0) (v5).toNatClampNeg (0 : Int32)) 1236 v0) = 20) ∧ ((inA (sAI (sAI h s0 (v5).toNatClampNeg ((1 : Int32) <<< (v1 &&& 31))) (hR (sAI h s0 (v5).toNatClampNeg ((1 : Int32) <<< (v1 &&& 31))) 1235 v0) (v5).toNatClampNeg (0 : Int32)) (hR (sAI (sAI h s0 (v5).toNatClampNeg ((1 : Int32) <<< (v1 &&& 31))) (hR (sAI h s0 (v5).toNatClampNeg ((1 : Int32) <<< (v1 &&& 31))) 1235 v0) (v5).toNatClampNeg (0 : Int32)) 1236 v0) v5 = true) ∧ (WP d mX12_propose 190 [some (.ref v0), some (.int v1), some (.int v2), some (.int v3), some (.int v4), some (.int v5), some (.int v6), some (.int (0 : Int32)), u8] [] (sAI (sAI (sAI h s0 (v5).toNatClampNeg ((1 : Int32) <<< (v1 &&& 31))) (hR (sAI h s0 (v5).toNatClampNeg ((1 : Int32) <<< (v1 &&& 31))) 1235 v0) (v5).toNatClampNeg (0 : Int32)) (hR (sAI (sAI h s0 (v5).toNatClampNeg ((1 : Int32) <<< (v1 &&& 31))) (hR (sAI h s0 (v5).toNatClampNeg ((1 : Int32) <<< (v1 &&& 31))) 1235 v0) (v5).toNatClampNeg (0 : Int32)) 1236 v0) (v5).toNatClampNeg (0 : Int32)) Q))))))))) : WP d mX12_propose 165 [some (.ref v0), some (.int v1), some (.int v2), some (.int v3), some (.int v4), some (.int v5), some (.int v6), u7, u8] [.ref s0] h Q := by
  refine w_iload dX12_propose_165 rfl ?_
  refine w_iconst dX12_propose_167 i1_1 ?_
  refine w_iload_n dX12_propose_168 rfl ?_
  refine w_ishl dX12_propose_169 ?_
  obtain ⟨g1, k⟩ := k
  obtain ⟨g2, k⟩ := k
  refine w_iastore dX12_propose_170 g1 g2 ?_
  refine w_aload_n dX12_propose_171 rfl ?_
  obtain ⟨g3, k⟩ := k
  refine w_getR dX12_propose_172 f_12_111 t_12_35 g3 ?_
  refine w_iload dX12_propose_175 rfl ?_
  refine w_iconst dX12_propose_177 i1_0 ?_
  obtain ⟨g4, k⟩ := k
  obtain ⟨g5, k⟩ := k
  refine w_bastore dX12_propose_178 g4 g5 rfl ?_
  refine w_aload_n dX12_propose_179 rfl ?_
  obtain ⟨g6, k⟩ := k
  refine w_getR dX12_propose_180 f_12_114 t_12_36 g6 ?_
  refine w_iload dX12_propose_183 rfl ?_
  refine w_iconst dX12_propose_185 i1_0 ?_
  obtain ⟨g7, k⟩ := k
  obtain ⟨g8, k⟩ := k
  refine w_iastore dX12_propose_186 g7 g8 ?_
  refine w_iconst dX12_propose_187 i1_0 ?_
  refine w_istore (lo' := [some (.ref v0), some (.int v1), some (.int v2), some (.int v3), some (.int v4), some (.int v5), some (.int v6), some (.int (0 : Int32)), u8]) dX12_propose_188 (ltQ rfl) rfl ?_
  exact k
theorem bX12_propose_190 {d : Nat} {h : HP} {Q : Out → HP → Prop} {v0 : Nat} {v1 : Int32} {v2 : Int32} {v3 : Int32} {v4 : Int32} {v5 : Int32} {v6 : Int32} {v7 : Int32} {u8 : Option Value} (k : (hK h v0 = 12) ∧ ((((hI h 1200 v0) ≤ v7) → (1 < v0) ∧ (WP d mX12_ends 0 [some (.ref v0), none] [] h (KK d mX12_propose mX12_ends 241 [some (.ref v0), some (.int v1), some (.int v2), some (.int v3), some (.int v4), some (.int v5), some (.int v6), some (.int v7), u8] [] Q))) ∧ ((¬ ((hI h 1200 v0) ≤ v7)) → ((v7 = v1) → WP (d + 1) mX12_propose 190 [some (.ref v0), some (.int v1), some (.int v2), some (.int v3), some (.int v4), some (.int v5), some (.int v6), some (.int (v7 + (1 : Int32))), u8] [] h Q) ∧ ((¬ (v7 = v1)) → (1 < v0) ∧ (WP d mX12_sends 0 [some (.ref v0), some (.int (4 : Int32)), some (.int v1), some (.int v7), some (.int v6), none, none] [] h (KK d mX12_propose mX12_sends 212 [some (.ref v0), some (.int v1), some (.int v2), some (.int v3), some (.int v4), some (.int v5), some (.int v6), some (.int v7), u8] [] Q)))))) : WP (d + 1) mX12_propose 190 [some (.ref v0), some (.int v1), some (.int v2), some (.int v3), some (.int v4), some (.int v5), some (.int v6), some (.int v7), u8] [] h Q := by
  refine w_iload dX12_propose_190 rfl ?_
  refine w_aload_n dX12_propose_192 rfl ?_
  obtain ⟨g1, k⟩ := k
  refine w_getI dX12_propose_193 f_12_7 t_12_0 g1 ?_
  refine w_ic_ge (pc' := 240) dX12_propose_196 rfl rfl ⟨fun c => ?_, fun c => ?_⟩
  · replace k := k.1 c
    refine w_aload_n dX12_propose_240 rfl ?_
    obtain ⟨g2, k⟩ := k
    exact w_virt (as1 := [.ref v0]) (as2 := [.ref v0]) (rest := []) (lo2 := [some (.ref v0), none]) dX12_propose_241 c_12_187 rfl rfl rfl (Nat.le_of_ble_eq_true rfl) (Nat.le_of_ble_eq_true rfl) rfl (Nat.le_of_ble_eq_true rfl) rfl rfl g2 g1 k
  · replace k := k.2 c
    refine w_iload dX12_propose_199 rfl ?_
    refine w_iload_n dX12_propose_201 rfl ?_
    refine w_ic_eq (pc' := 234) dX12_propose_202 rfl rfl ⟨fun c => ?_, fun c => ?_⟩
    · replace k := k.1 c
      refine w_iinc (lo' := [some (.ref v0), some (.int v1), some (.int v2), some (.int v3), some (.int v4), some (.int v5), some (.int v6), some (.int (v7 + (1 : Int32))), u8]) dX12_propose_234 rfl i1_1 rfl ?_
      refine w_goto (pc' := 190) dX12_propose_237 rfl rfl ?_
      exact k
    · replace k := k.2 c
      refine w_aload_n dX12_propose_205 rfl ?_
      refine w_iconst dX12_propose_206 i1_4 ?_
      refine w_iload_n dX12_propose_207 rfl ?_
      refine w_iload dX12_propose_208 rfl ?_
      refine w_iload dX12_propose_210 rfl ?_
      obtain ⟨g3, k⟩ := k
      exact w_virt (as1 := [.int v6, .int v7, .int v1, .int (4 : Int32), .ref v0]) (as2 := [.ref v0, .int (4 : Int32), .int v1, .int v7, .int v6]) (rest := []) (lo2 := [some (.ref v0), some (.int (4 : Int32)), some (.int v1), some (.int v7), some (.int v6), none, none]) dX12_propose_212 c_12_229 rfl rfl rfl (Nat.le_of_ble_eq_true rfl) (Nat.le_of_ble_eq_true rfl) rfl (Nat.le_of_ble_eq_true rfl) rfl rfl g3 g1 k
theorem bX12_propose_215 {d : Nat} {h : HP} {Q : Out → HP → Prop} {v0 : Nat} {v1 : Int32} {v2 : Int32} {v3 : Int32} {v4 : Int32} {v5 : Int32} {v6 : Int32} {v7 : Int32} {u8 : Option Value} {s0 : Int32} (k : ((s0 = (-1 : Int32)) → WP d mX12_propose 190 [some (.ref v0), some (.int v1), some (.int v2), some (.int v3), some (.int v4), some (.int v5), some (.int v6), some (.int (v7 + (1 : Int32))), some (.int s0)] [] h Q) ∧ ((¬ (s0 = (-1 : Int32))) → (hK h v0 = 12) ∧ ((hK h (hR h 1237 v0) = 20) ∧ ((inA h (hR h 1237 v0) (s0 + (6 : Int32)) = true) ∧ (WP d mX12_propose 190 [some (.ref v0), some (.int v1), some (.int v2), some (.int v3), some (.int v4), some (.int v5), some (.int v6), some (.int (v7 + (1 : Int32))), some (.int s0)] [] (sAI h (hR h 1237 v0) ((s0 + (6 : Int32))).toNatClampNeg v2) Q))))) : WP d mX12_propose 215 [some (.ref v0), some (.int v1), some (.int v2), some (.int v3), some (.int v4), some (.int v5), some (.int v6), some (.int v7), u8] [.int s0] h Q := by
  refine w_istore (lo' := [some (.ref v0), some (.int v1), some (.int v2), some (.int v3), some (.int v4), some (.int v5), some (.int v6), some (.int v7), some (.int s0)]) dX12_propose_215 (ltQ rfl) rfl ?_
  refine w_iload dX12_propose_217 rfl ?_
  refine w_iconst dX12_propose_219 i1_m1 ?_
  refine w_ic_eq (pc' := 234) dX12_propose_220 rfl rfl ⟨fun c => ?_, fun c => ?_⟩
  · replace k := k.1 c
    refine w_iinc (lo' := [some (.ref v0), some (.int v1), some (.int v2), some (.int v3), some (.int v4), some (.int v5), some (.int v6), some (.int (v7 + (1 : Int32))), some (.int s0)]) dX12_propose_234 rfl i1_1 rfl ?_
    refine w_goto (pc' := 190) dX12_propose_237 rfl rfl ?_
    exact k
  · replace k := k.2 c
    refine w_aload_n dX12_propose_223 rfl ?_
    obtain ⟨g1, k⟩ := k
    refine w_getR dX12_propose_224 f_12_117 t_12_37 g1 ?_
    refine w_iload dX12_propose_227 rfl ?_
    refine w_bipush dX12_propose_229 i2_6 ?_
    refine w_iadd dX12_propose_231 ?_
    refine w_iload_n dX12_propose_232 rfl ?_
    obtain ⟨g2, k⟩ := k
    obtain ⟨g3, k⟩ := k
    refine w_iastore dX12_propose_233 g2 g3 ?_
    refine w_iinc (lo' := [some (.ref v0), some (.int v1), some (.int v2), some (.int v3), some (.int v4), some (.int v5), some (.int v6), some (.int (v7 + (1 : Int32))), some (.int s0)]) dX12_propose_234 rfl i1_1 rfl ?_
    refine w_goto (pc' := 190) dX12_propose_237 rfl rfl ?_
    exact k
theorem bX12_propose_244 {d : Nat} {h : HP} {Q : Out → HP → Prop} {v0 : Nat} {v1 : Int32} {v2 : Int32} {v3 : Int32} {v4 : Int32} {v5 : Int32} {v6 : Int32} {v7 : Int32} {u8 : Option Value} (k : Q (.inl (some (.int v6))) h) : WP d mX12_propose 244 [some (.ref v0), some (.int v1), some (.int v2), some (.int v3), some (.int v4), some (.int v5), some (.int v6), some (.int v7), u8] [] h Q := by
  refine w_iload dX12_propose_244 rfl ?_
  exact w_ireturn dX12_propose_246 rfl k
theorem bX12_prepared_0 {d : Nat} {h : HP} {Q : Out → HP → Prop} {v0 : Nat} {v1 : Int32} {u2 : Option Value} {u3 : Option Value} (k : (hK h v0 = 12) ∧ ((hK h (hR h 1249 v0) = 20) ∧ ((inA h (hR h 1249 v0) (6 : Int32) = true) ∧ ((inA h (hR h 1249 v0) (3 : Int32) = true) ∧ ((hK h (hR h 1227 v0) = 20) ∧ ((inA h (hR h 1227 v0) (((4 : Int32) * v1) + (hAI h (hR h 1249 v0) ((6 : Int32)).toNatClampNeg)) = true) ∧ ((((hAI h (hR h 1249 v0) ((3 : Int32)).toNatClampNeg) ≤ (hAI h (hR h 1227 v0) ((((4 : Int32) * v1) + (hAI h (hR h 1249 v0) ((6 : Int32)).toNatClampNeg))).toNatClampNeg)) → Q (.inl none) h) ∧ ((¬ ((hAI h (hR h 1249 v0) ((3 : Int32)).toNatClampNeg) ≤ (hAI h (hR h 1227 v0) ((((4 : Int32) * v1) + (hAI h (hR h 1249 v0) ((6 : Int32)).toNatClampNeg))).toNatClampNeg))) → (hK (sAI h (hR h 1227 v0) ((((4 : Int32) * v1) + (hAI h (hR h 1249 v0) ((6 : Int32)).toNatClampNeg))).toNatClampNeg (hAI h (hR h 1249 v0) ((3 : Int32)).toNatClampNeg)) v0 = 12) ∧ ((hK (sAI h (hR h 1227 v0) ((((4 : Int32) * v1) + (hAI h (hR h 1249 v0) ((6 : Int32)).toNatClampNeg))).toNatClampNeg (hAI h (hR h 1249 v0) ((3 : Int32)).toNatClampNeg)) (hR (sAI h (hR h 1227 v0) ((((4 : Int32) * v1) + (hAI h (hR h 1249 v0) ((6 : Int32)).toNatClampNeg))).toNatClampNeg (hAI h (hR h 1249 v0) ((3 : Int32)).toNatClampNeg)) 1249 v0) = 20) ∧ ((inA (sAI h (hR h 1227 v0) ((((4 : Int32) * v1) + (hAI h (hR h 1249 v0) ((6 : Int32)).toNatClampNeg))).toNatClampNeg (hAI h (hR h 1249 v0) ((3 : Int32)).toNatClampNeg)) (hR (sAI h (hR h 1227 v0) ((((4 : Int32) * v1) + (hAI h (hR h 1249 v0) ((6 : Int32)).toNatClampNeg))).toNatClampNeg (hAI h (hR h 1249 v0) ((3 : Int32)).toNatClampNeg)) 1249 v0) (1 : Int32) = true) ∧ (WP d mX12_prepared 48 [some (.ref v0), some (.int v1), some (.int (((4 : Int32) * v1) + (hAI h (hR h 1249 v0) ((6 : Int32)).toNatClampNeg))), u3] [.int (hAI (sAI h (hR h 1227 v0) ((((4 : Int32) * v1) + (hAI h (hR h 1249 v0) ((6 : Int32)).toNatClampNeg))).toNatClampNeg (hAI h (hR h 1249 v0) ((3 : Int32)).toNatClampNeg)) (hR (sAI h (hR h 1227 v0) ((((4 : Int32) * v1) + (hAI h (hR h 1249 v0) ((6 : Int32)).toNatClampNeg))).toNatClampNeg (hAI h (hR h 1249 v0) ((3 : Int32)).toNatClampNeg)) 1249 v0) ((1 : Int32)).toNatClampNeg), .int v1, .int (5 : Int32), .ref v0] (sAI h (hR h 1227 v0) ((((4 : Int32) * v1) + (hAI h (hR h 1249 v0) ((6 : Int32)).toNatClampNeg))).toNatClampNeg (hAI h (hR h 1249 v0) ((3 : Int32)).toNatClampNeg)) Q))))))))))) : WP d mX12_prepared 0 [some (.ref v0), some (.int v1), u2, u3] [] h Q := by
  refine w_iconst dX12_prepared_0 i1_4 ?_
  refine w_iload_n dX12_prepared_1 rfl ?_
  refine w_imul dX12_prepared_2 ?_
  refine w_aload_n dX12_prepared_3 rfl ?_
  obtain ⟨g1, k⟩ := k
  refine w_getR dX12_prepared_4 f_12_144 t_12_49 g1 ?_
  refine w_bipush dX12_prepared_7 i2_6 ?_
  obtain ⟨g2, k⟩ := k
  obtain ⟨g3, k⟩ := k
  refine w_iaload dX12_prepared_9 g2 g3 ?_
  refine w_iadd dX12_prepared_10 ?_
  refine w_istore_n (lo' := [some (.ref v0), some (.int v1), some (.int (((4 : Int32) * v1) + (hAI h (hR h 1249 v0) ((6 : Int32)).toNatClampNeg))), u3]) dX12_prepared_11 (ltQ rfl) rfl ?_
  refine w_aload_n dX12_prepared_12 rfl ?_
  refine w_getR dX12_prepared_13 f_12_144 t_12_49 g1 ?_
  refine w_iconst dX12_prepared_16 i1_3 ?_
  obtain ⟨g4, k⟩ := k
  refine w_iaload dX12_prepared_17 g2 g4 ?_
  refine w_aload_n dX12_prepared_18 rfl ?_
  refine w_getR dX12_prepared_19 f_12_87 t_12_27 g1 ?_
  refine w_iload_n dX12_prepared_22 rfl ?_
  obtain ⟨g5, k⟩ := k
  obtain ⟨g6, k⟩ := k
  refine w_iaload dX12_prepared_23 g5 g6 ?_
  refine w_ic_le (pc' := 107) dX12_prepared_24 rfl rfl ⟨fun c => ?_, fun c => ?_⟩
  · replace k := k.1 c
    exact w_return dX12_prepared_107 rfl k
  · replace k := k.2 c
    refine w_aload_n dX12_prepared_27 rfl ?_
    refine w_getR dX12_prepared_28 f_12_87 t_12_27 g1 ?_
    refine w_iload_n dX12_prepared_31 rfl ?_
    refine w_aload_n dX12_prepared_32 rfl ?_
    refine w_getR dX12_prepared_33 f_12_144 t_12_49 g1 ?_
    refine w_iconst dX12_prepared_36 i1_3 ?_
    refine w_iaload dX12_prepared_37 g2 g4 ?_
    refine w_iastore dX12_prepared_38 g5 g6 ?_
    refine w_aload_n dX12_prepared_39 rfl ?_
    refine w_iconst dX12_prepared_40 i1_5 ?_
    refine w_iload_n dX12_prepared_41 rfl ?_
    refine w_aload_n dX12_prepared_42 rfl ?_
    obtain ⟨g7, k⟩ := k
    refine w_getR dX12_prepared_43 f_12_144 t_12_49 g7 ?_
    refine w_iconst dX12_prepared_46 i1_1 ?_
    obtain ⟨g8, k⟩ := k
    obtain ⟨g9, k⟩ := k
    refine w_iaload dX12_prepared_47 g8 g9 ?_
    exact k
theorem bX12_prepared_48 {d : Nat} {h : HP} {Q : Out → HP → Prop} {v0 : Nat} {v1 : Int32} {v2 : Int32} {u3 : Option Value} {s0 : Int32} {s1 : Int32} {s2 : Int32} {s3 : Nat} (k : (hK h v0 = 12) ∧ ((hK h (hR h 1249 v0) = 20) ∧ ((inA h (hR h 1249 v0) (3 : Int32) = true) ∧ ((1 < s3) ∧ ((hK h s3 = 12) ∧ (WP d mX12_sends 0 [some (.ref s3), some (.int s2), some (.int s1), some (.int s0), some (.int (hAI h (hR h 1249 v0) ((3 : Int32)).toNatClampNeg)), none, none] [] h (KK d mX12_prepared mX12_sends 54 [some (.ref v0), some (.int v1), some (.int v2), u3] [] Q))))))) : WP (d + 1) mX12_prepared 48 [some (.ref v0), some (.int v1), some (.int v2), u3] [.int s0, .int s1, .int s2, .ref s3] h Q := by
  refine w_aload_n dX12_prepared_48 rfl ?_
  obtain ⟨g1, k⟩ := k
  refine w_getR dX12_prepared_49 f_12_144 t_12_49 g1 ?_
  refine w_iconst dX12_prepared_52 i1_3 ?_
  obtain ⟨g2, k⟩ := k
  obtain ⟨g3, k⟩ := k
  refine w_iaload dX12_prepared_53 g2 g3 ?_
  obtain ⟨g4, k⟩ := k
  obtain ⟨g5, k⟩ := k
  exact w_virt (as1 := [.int (hAI h (hR h 1249 v0) ((3 : Int32)).toNatClampNeg), .int s0, .int s1, .int s2, .ref s3]) (as2 := [.ref s3, .int s2, .int s1, .int s0, .int (hAI h (hR h 1249 v0) ((3 : Int32)).toNatClampNeg)]) (rest := []) (lo2 := [some (.ref s3), some (.int s2), some (.int s1), some (.int s0), some (.int (hAI h (hR h 1249 v0) ((3 : Int32)).toNatClampNeg)), none, none]) dX12_prepared_54 c_12_229 rfl rfl rfl (Nat.le_of_ble_eq_true rfl) (Nat.le_of_ble_eq_true rfl) rfl (Nat.le_of_ble_eq_true rfl) rfl rfl g4 g5 k
theorem bX12_prepared_57 {d : Nat} {h : HP} {Q : Out → HP → Prop} {v0 : Nat} {v1 : Int32} {v2 : Int32} {u3 : Option Value} {s0 : Int32} (k : ((s0 = (-1 : Int32)) → Q (.inl none) h) ∧ ((¬ (s0 = (-1 : Int32))) → (hK h v0 = 12) ∧ ((hK h (hR h 1228 v0) = 20) ∧ ((inA h (hR h 1228 v0) v2 = true) ∧ ((hK h (hR h 1237 v0) = 20) ∧ ((inA h (hR h 1237 v0) (s0 + (4 : Int32)) = true) ∧ ((hK (sAI h (hR h 1237 v0) ((s0 + (4 : Int32))).toNatClampNeg (hAI h (hR h 1228 v0) (v2).toNatClampNeg)) v0 = 12) ∧ ((hK (sAI h (hR h 1237 v0) ((s0 + (4 : Int32))).toNatClampNeg (hAI h (hR h 1228 v0) (v2).toNatClampNeg)) (hR (sAI h (hR h 1237 v0) ((s0 + (4 : Int32))).toNatClampNeg (hAI h (hR h 1228 v0) (v2).toNatClampNeg)) 1229 v0) = 20) ∧ ((inA (sAI h (hR h 1237 v0) ((s0 + (4 : Int32))).toNatClampNeg (hAI h (hR h 1228 v0) (v2).toNatClampNeg)) (hR (sAI h (hR h 1237 v0) ((s0 + (4 : Int32))).toNatClampNeg (hAI h (hR h 1228 v0) (v2).toNatClampNeg)) 1229 v0) v2 = true) ∧ ((hK (sAI h (hR h 1237 v0) ((s0 + (4 : Int32))).toNatClampNeg (hAI h (hR h 1228 v0) (v2).toNatClampNeg)) (hR (sAI h (hR h 1237 v0) ((s0 + (4 : Int32))).toNatClampNeg (hAI h (hR h 1228 v0) (v2).toNatClampNeg)) 1237 v0) = 20) ∧ ((inA (sAI h (hR h 1237 v0) ((s0 + (4 : Int32))).toNatClampNeg (hAI h (hR h 1228 v0) (v2).toNatClampNeg)) (hR (sAI h (hR h 1237 v0) ((s0 + (4 : Int32))).toNatClampNeg (hAI h (hR h 1228 v0) (v2).toNatClampNeg)) 1237 v0) (s0 + (5 : Int32)) = true) ∧ ((hK (sAI (sAI h (hR h 1237 v0) ((s0 + (4 : Int32))).toNatClampNeg (hAI h (hR h 1228 v0) (v2).toNatClampNeg)) (hR (sAI h (hR h 1237 v0) ((s0 + (4 : Int32))).toNatClampNeg (hAI h (hR h 1228 v0) (v2).toNatClampNeg)) 1237 v0) ((s0 + (5 : Int32))).toNatClampNeg (hAI (sAI h (hR h 1237 v0) ((s0 + (4 : Int32))).toNatClampNeg (hAI h (hR h 1228 v0) (v2).toNatClampNeg)) (hR (sAI h (hR h 1237 v0) ((s0 + (4 : Int32))).toNatClampNeg (hAI h (hR h 1228 v0) (v2).toNatClampNeg)) 1229 v0) (v2).toNatClampNeg)) v0 = 12) ∧ (WP d mX12_prepared 95 [some (.ref v0), some (.int v1), some (.int v2), some (.int s0)] [.ref (hR (sAI (sAI h (hR h 1237 v0) ((s0 + (4 : Int32))).toNatClampNeg (hAI h (hR h 1228 v0) (v2).toNatClampNeg)) (hR (sAI h (hR h 1237 v0) ((s0 + (4 : Int32))).toNatClampNeg (hAI h (hR h 1228 v0) (v2).toNatClampNeg)) 1237 v0) ((s0 + (5 : Int32))).toNatClampNeg (hAI (sAI h (hR h 1237 v0) ((s0 + (4 : Int32))).toNatClampNeg (hAI h (hR h 1228 v0) (v2).toNatClampNeg)) (hR (sAI h (hR h 1237 v0) ((s0 + (4 : Int32))).toNatClampNeg (hAI h (hR h 1228 v0) (v2).toNatClampNeg)) 1229 v0) (v2).toNatClampNeg)) 1237 v0)] (sAI (sAI h (hR h 1237 v0) ((s0 + (4 : Int32))).toNatClampNeg (hAI h (hR h 1228 v0) (v2).toNatClampNeg)) (hR (sAI h (hR h 1237 v0) ((s0 + (4 : Int32))).toNatClampNeg (hAI h (hR h 1228 v0) (v2).toNatClampNeg)) 1237 v0) ((s0 + (5 : Int32))).toNatClampNeg (hAI (sAI h (hR h 1237 v0) ((s0 + (4 : Int32))).toNatClampNeg (hAI h (hR h 1228 v0) (v2).toNatClampNeg)) (hR (sAI h (hR h 1237 v0) ((s0 + (4 : Int32))).toNatClampNeg (hAI h (hR h 1228 v0) (v2).toNatClampNeg)) 1229 v0) (v2).toNatClampNeg)) Q))))))))))))) : WP d mX12_prepared 57 [some (.ref v0), some (.int v1), some (.int v2), u3] [.int s0] h Q := by
  refine w_istore_n (lo' := [some (.ref v0), some (.int v1), some (.int v2), some (.int s0)]) dX12_prepared_57 (ltQ rfl) rfl ?_
  refine w_iload_n dX12_prepared_58 rfl ?_
  refine w_iconst dX12_prepared_59 i1_m1 ?_
  refine w_ic_eq (pc' := 107) dX12_prepared_60 rfl rfl ⟨fun c => ?_, fun c => ?_⟩
  · replace k := k.1 c
    exact w_return dX12_prepared_107 rfl k
  · replace k := k.2 c
    refine w_aload_n dX12_prepared_63 rfl ?_
    obtain ⟨g1, k⟩ := k
    refine w_getR dX12_prepared_64 f_12_117 t_12_37 g1 ?_
    refine w_iload_n dX12_prepared_67 rfl ?_
    refine w_iconst dX12_prepared_68 i1_4 ?_
    refine w_iadd dX12_prepared_69 ?_
    refine w_aload_n dX12_prepared_70 rfl ?_
    refine w_getR dX12_prepared_71 f_12_90 t_12_28 g1 ?_
    refine w_iload_n dX12_prepared_74 rfl ?_
    obtain ⟨g2, k⟩ := k
    obtain ⟨g3, k⟩ := k
    refine w_iaload dX12_prepared_75 g2 g3 ?_
    obtain ⟨g4, k⟩ := k
    obtain ⟨g5, k⟩ := k
    refine w_iastore dX12_prepared_76 g4 g5 ?_
    refine w_aload_n dX12_prepared_77 rfl ?_
    obtain ⟨g6, k⟩ := k
    refine w_getR dX12_prepared_78 f_12_117 t_12_37 g6 ?_
    refine w_iload_n dX12_prepared_81 rfl ?_
    refine w_iconst dX12_prepared_82 i1_5 ?_
    refine w_iadd dX12_prepared_83 ?_
    refine w_aload_n dX12_prepared_84 rfl ?_
    refine w_getR dX12_prepared_85 f_12_93 t_12_29 g6 ?_
    refine w_iload_n dX12_prepared_88 rfl ?_
    obtain ⟨g7, k⟩ := k
    obtain ⟨g8, k⟩ := k
    refine w_iaload dX12_prepared_89 g7 g8 ?_
    obtain ⟨g9, k⟩ := k
    obtain ⟨g10, k⟩ := k
    refine w_iastore dX12_prepared_90 g9 g10 ?_
    refine w_aload_n dX12_prepared_91 rfl ?_
    obtain ⟨g11, k⟩ := k
    refine w_getR dX12_prepared_92 f_12_117 t_12_37 g11 ?_
    exact k
theorem bX12_prepared_95 {d : Nat} {h : HP} {Q : Out → HP → Prop} {v0 : Nat} {v1 : Int32} {v2 : Int32} {v3 : Int32} {s0 : Nat} (k : (hK h v0 = 12) ∧ ((hK h (hR h 1249 v0) = 20) ∧ ((inA h (hR h 1249 v0) (6 : Int32) = true) ∧ ((hK h s0 = 20) ∧ ((inA h s0 (v3 + (6 : Int32)) = true) ∧ (Q (.inl none) (sAI h s0 ((v3 + (6 : Int32))).toNatClampNeg (hAI h (hR h 1249 v0) ((6 : Int32)).toNatClampNeg)))))))) : WP d mX12_prepared 95 [some (.ref v0), some (.int v1), some (.int v2), some (.int v3)] [.ref s0] h Q := by
  refine w_iload_n dX12_prepared_95 rfl ?_
  refine w_bipush dX12_prepared_96 i2_6 ?_
  refine w_iadd dX12_prepared_98 ?_
  refine w_aload_n dX12_prepared_99 rfl ?_
  obtain ⟨g1, k⟩ := k
  refine w_getR dX12_prepared_100 f_12_144 t_12_49 g1 ?_
  refine w_bipush dX12_prepared_103 i2_6 ?_
  obtain ⟨g2, k⟩ := k
  obtain ⟨g3, k⟩ := k
  refine w_iaload dX12_prepared_105 g2 g3 ?_
  obtain ⟨g4, k⟩ := k
  obtain ⟨g5, k⟩ := k
  refine w_iastore dX12_prepared_106 g4 g5 ?_
  exact w_return dX12_prepared_107 rfl k
theorem bX12_promised_0 {d : Nat} {h : HP} {Q : Out → HP → Prop} {v0 : Nat} {v1 : Int32} {u2 : Option Value} {u3 : Option Value} {u4 : Option Value} (k : (hK h v0 = 12) ∧ ((hK h (hR h 1249 v0) = 20) ∧ ((inA h (hR h 1249 v0) (6 : Int32) = true) ∧ ((hK h (hR h 1231 v0) = 20) ∧ ((inA h (hR h 1231 v0) (((4 : Int32) * v1) + (hAI h (hR h 1249 v0) ((6 : Int32)).toNatClampNeg)) = true) ∧ ((inA h (hR h 1249 v0) (3 : Int32) = true) ∧ (((¬ (hAI h (hR h 1231 v0) ((((4 : Int32) * v1) + (hAI h (hR h 1249 v0) ((6 : Int32)).toNatClampNeg))).toNatClampNeg) = (hAI h (hR h 1249 v0) ((3 : Int32)).toNatClampNeg)) → Q (.inl none) h) ∧ ((¬ (¬ (hAI h (hR h 1231 v0) ((((4 : Int32) * v1) + (hAI h (hR h 1249 v0) ((6 : Int32)).toNatClampNeg))).toNatClampNeg) = (hAI h (hR h 1249 v0) ((3 : Int32)).toNatClampNeg))) → (hK h (hR h 1227 v0) = 20) ∧ ((inA h (hR h 1227 v0) (((4 : Int32) * v1) + (hAI h (hR h 1249 v0) ((6 : Int32)).toNatClampNeg)) = true) ∧ (((¬ (hAI h (hR h 1227 v0) ((((4 : Int32) * v1) + (hAI h (hR h 1249 v0) ((6 : Int32)).toNatClampNeg))).toNatClampNeg) = (hAI h (hR h 1249 v0) ((3 : Int32)).toNatClampNeg)) → Q (.inl none) h) ∧ ((¬ (¬ (hAI h (hR h 1227 v0) ((((4 : Int32) * v1) + (hAI h (hR h 1249 v0) ((6 : Int32)).toNatClampNeg))).toNatClampNeg) = (hAI h (hR h 1249 v0) ((3 : Int32)).toNatClampNeg))) → (hK h (hR h 1235 v0) = 21) ∧ ((inA h (hR h 1235 v0) (((4 : Int32) * v1) + (hAI h (hR h 1249 v0) ((6 : Int32)).toNatClampNeg)) = true) ∧ ((((hAI h (hR h 1235 v0) ((((4 : Int32) * v1) + (hAI h (hR h 1249 v0) ((6 : Int32)).toNatClampNeg))).toNatClampNeg) = 0) → (hK h (hR h 1233 v0) = 20) ∧ ((inA h (hR h 1233 v0) (((4 : Int32) * v1) + (hAI h (hR h 1249 v0) ((6 : Int32)).toNatClampNeg)) = true) ∧ ((inA h (hR h 1249 v0) (1 : Int32) = true) ∧ ((hK (sAI h (hR h 1233 v0) ((((4 : Int32) * v1) + (hAI h (hR h 1249 v0) ((6 : Int32)).toNatClampNeg))).toNatClampNeg ((hAI h (hR h 1233 v0) ((((4 : Int32) * v1) + (hAI h (hR h 1249 v0) ((6 : Int32)).toNatClampNeg))).toNatClampNeg) ||| ((1 : Int32) <<< ((hAI h (hR h 1249 v0) ((1 : Int32)).toNatClampNeg) &&& 31)))) v0 = 12) ∧ (WP d mX12_promised 73 [some (.ref v0), some (.int v1), some (.int (((4 : Int32) * v1) + (hAI h (hR h 1249 v0) ((6 : Int32)).toNatClampNeg))), u3, u4] [.ref (hR (sAI h (hR h 1233 v0) ((((4 : Int32) * v1) + (hAI h (hR h 1249 v0) ((6 : Int32)).toNatClampNeg))).toNatClampNeg ((hAI h (hR h 1233 v0) ((((4 : Int32) * v1) + (hAI h (hR h 1249 v0) ((6 : Int32)).toNatClampNeg))).toNatClampNeg) ||| ((1 : Int32) <<< ((hAI h (hR h 1249 v0) ((1 : Int32)).toNatClampNeg) &&& 31)))) 1249 v0)] (sAI h (hR h 1233 v0) ((((4 : Int32) * v1) + (hAI h (hR h 1249 v0) ((6 : Int32)).toNatClampNeg))).toNatClampNeg ((hAI h (hR h 1233 v0) ((((4 : Int32) * v1) + (hAI h (hR h 1249 v0) ((6 : Int32)).toNatClampNeg))).toNatClampNeg) ||| ((1 : Int32) <<< ((hAI h (hR h 1249 v0) ((1 : Int32)).toNatClampNeg) &&& 31)))) Q))))) ∧ ((¬ ((hAI h (hR h 1235 v0) ((((4 : Int32) * v1) + (hAI h (hR h 1249 v0) ((6 : Int32)).toNatClampNeg))).toNatClampNeg) = 0)) → Q (.inl none) h)))))))))))))) : WP d mX12_promised 0 [some (.ref v0), some (.int v1), u2, u3, u4] [] h Q := by
  refine w_iconst dX12_promised_0 i1_4 ?_
  refine w_iload_n dX12_promised_1 rfl ?_
  refine w_imul dX12_promised_2 ?_
  refine w_aload_n dX12_promised_3 rfl ?_
  obtain ⟨g1, k⟩ := k
  refine w_getR dX12_promised_4 f_12_144 t_12_49 g1 ?_
  refine w_bipush dX12_promised_7 i2_6 ?_
  obtain ⟨g2, k⟩ := k
  obtain ⟨g3, k⟩ := k
  refine w_iaload dX12_promised_9 g2 g3 ?_
  refine w_iadd dX12_promised_10 ?_
  refine w_istore_n (lo' := [some (.ref v0), some (.int v1), some (.int (((4 : Int32) * v1) + (hAI h (hR h 1249 v0) ((6 : Int32)).toNatClampNeg))), u3, u4]) dX12_promised_11 (ltQ rfl) rfl ?_
  refine w_aload_n dX12_promised_12 rfl ?_
  refine w_getR dX12_promised_13 f_12_99 t_12_31 g1 ?_
  refine w_iload_n dX12_promised_16 rfl ?_
  obtain ⟨g4, k⟩ := k
  obtain ⟨g5, k⟩ := k
  refine w_iaload dX12_promised_17 g4 g5 ?_
  refine w_aload_n dX12_promised_18 rfl ?_
  refine w_getR dX12_promised_19 f_12_144 t_12_49 g1 ?_
  refine w_iconst dX12_promised_22 i1_3 ?_
  obtain ⟨g6, k⟩ := k
  refine w_iaload dX12_promised_23 g2 g6 ?_
  refine w_ic_ne (pc' := 51) dX12_promised_24 rfl rfl ⟨fun c => ?_, fun c => ?_⟩
  · replace k := k.1 c
    exact w_return dX12_promised_51 rfl k
  · replace k := k.2 c
    refine w_aload_n dX12_promised_27 rfl ?_
    refine w_getR dX12_promised_28 f_12_87 t_12_27 g1 ?_
    refine w_iload_n dX12_promised_31 rfl ?_
    obtain ⟨g7, k⟩ := k
    obtain ⟨g8, k⟩ := k
    refine w_iaload dX12_promised_32 g7 g8 ?_
    refine w_aload_n dX12_promised_33 rfl ?_
    refine w_getR dX12_promised_34 f_12_144 t_12_49 g1 ?_
    refine w_iconst dX12_promised_37 i1_3 ?_
    refine w_iaload dX12_promised_38 g2 g6 ?_
    refine w_ic_ne (pc' := 51) dX12_promised_39 rfl rfl ⟨fun c => ?_, fun c => ?_⟩
    · replace k := k.1 c
      exact w_return dX12_promised_51 rfl k
    · replace k := k.2 c
      refine w_aload_n dX12_promised_42 rfl ?_
      refine w_getR dX12_promised_43 f_12_111 t_12_35 g1 ?_
      refine w_iload_n dX12_promised_46 rfl ?_
      obtain ⟨g9, k⟩ := k
      obtain ⟨g10, k⟩ := k
      refine w_baload dX12_promised_47 g9 g10 ?_
      refine w_if_eq (pc' := 52) dX12_promised_48 rfl rfl ⟨fun c => ?_, fun c => ?_⟩
      · replace k := k.1 c
        refine w_aload_n dX12_promised_52 rfl ?_
        refine w_getR dX12_promised_53 f_12_105 t_12_33 g1 ?_
        refine w_iload_n dX12_promised_56 rfl ?_
        refine w_dup2 dX12_promised_57 rfl rfl ?_
        obtain ⟨g11, k⟩ := k
        obtain ⟨g12, k⟩ := k
        refine w_iaload dX12_promised_58 g11 g12 ?_
        refine w_iconst dX12_promised_59 i1_1 ?_
        refine w_aload_n dX12_promised_60 rfl ?_
        refine w_getR dX12_promised_61 f_12_144 t_12_49 g1 ?_
        refine w_iconst dX12_promised_64 i1_1 ?_
        obtain ⟨g13, k⟩ := k
        refine w_iaload dX12_promised_65 g2 g13 ?_
        refine w_ishl dX12_promised_66 ?_
        refine w_ior dX12_promised_67 ?_
        refine w_iastore dX12_promised_68 g11 g12 ?_
        refine w_aload_n dX12_promised_69 rfl ?_
        obtain ⟨g14, k⟩ := k
        refine w_getR dX12_promised_70 f_12_144 t_12_49 g14 ?_
        exact k
      · replace k := k.2 c
        exact w_return dX12_promised_51 rfl k
theorem bX12_promised_73 {d : Nat} {h : HP} {Q : Out → HP → Prop} {v0 : Nat} {v1 : Int32} {v2 : Int32} {u3 : Option Value} {u4 : Option Value} {s0 : Nat} (k : (hK h s0 = 20) ∧ ((inA h s0 (4 : Int32) = true) ∧ ((hK h v0 = 12) ∧ ((hK h (hR h 1234 v0) = 20) ∧ ((inA h (hR h 1234 v0) v2 = true) ∧ ((((hAI h s0 ((4 : Int32)).toNatClampNeg) ≤ (hAI h (hR h 1234 v0) (v2).toNatClampNeg)) → WP d mX12_promised 112 [some (.ref v0), some (.int v1), some (.int v2), u3, u4] [.ref (hR h 1233 v0)] h Q) ∧ ((¬ ((hAI h s0 ((4 : Int32)).toNatClampNeg) ≤ (hAI h (hR h 1234 v0) (v2).toNatClampNeg))) → (hK h (hR h 1249 v0) = 20) ∧ ((inA h (hR h 1249 v0) (4 : Int32) = true) ∧ ((hK (sAI h (hR h 1234 v0) (v2).toNatClampNeg (hAI h (hR h 1249 v0) ((4 : Int32)).toNatClampNeg)) v0 = 12) ∧ ((hK (sAI h (hR h 1234 v0) (v2).toNatClampNeg (hAI h (hR h 1249 v0) ((4 : Int32)).toNatClampNeg)) (hR (sAI h (hR h 1234 v0) (v2).toNatClampNeg (hAI h (hR h 1249 v0) ((4 : Int32)).toNatClampNeg)) 1249 v0) = 20) ∧ ((inA (sAI h (hR h 1234 v0) (v2).toNatClampNeg (hAI h (hR h 1249 v0) ((4 : Int32)).toNatClampNeg)) (hR (sAI h (hR h 1234 v0) (v2).toNatClampNeg (hAI h (hR h 1249 v0) ((4 : Int32)).toNatClampNeg)) 1249 v0) (5 : Int32) = true) ∧ ((hK (sAI h (hR h 1234 v0) (v2).toNatClampNeg (hAI h (hR h 1249 v0) ((4 : Int32)).toNatClampNeg)) (hR (sAI h (hR h 1234 v0) (v2).toNatClampNeg (hAI h (hR h 1249 v0) ((4 : Int32)).toNatClampNeg)) 1232 v0) = 20) ∧ ((inA (sAI h (hR h 1234 v0) (v2).toNatClampNeg (hAI h (hR h 1249 v0) ((4 : Int32)).toNatClampNeg)) (hR (sAI h (hR h 1234 v0) (v2).toNatClampNeg (hAI h (hR h 1249 v0) ((4 : Int32)).toNatClampNeg)) 1232 v0) v2 = true) ∧ ((hK (sAI (sAI h (hR h 1234 v0) (v2).toNatClampNeg (hAI h (hR h 1249 v0) ((4 : Int32)).toNatClampNeg)) (hR (sAI h (hR h 1234 v0) (v2).toNatClampNeg (hAI h (hR h 1249 v0) ((4 : Int32)).toNatClampNeg)) 1232 v0) (v2).toNatClampNeg (hAI (sAI h (hR h 1234 v0) (v2).toNatClampNeg (hAI h (hR h 1249 v0) ((4 : Int32)).toNatClampNeg)) (hR (sAI h (hR h 1234 v0) (v2).toNatClampNeg (hAI h (hR h 1249 v0) ((4 : Int32)).toNatClampNeg)) 1249 v0) ((5 : Int32)).toNatClampNeg)) v0 = 12) ∧ (WP d mX12_promised 112 [some (.ref v0), some (.int v1), some (.int v2), u3, u4] [.ref (hR (sAI (sAI h (hR h 1234 v0) (v2).toNatClampNeg (hAI h (hR h 1249 v0) ((4 : Int32)).toNatClampNeg)) (hR (sAI h (hR h 1234 v0) (v2).toNatClampNeg (hAI h (hR h 1249 v0) ((4 : Int32)).toNatClampNeg)) 1232 v0) (v2).toNatClampNeg (hAI (sAI h (hR h 1234 v0) (v2).toNatClampNeg (hAI h (hR h 1249 v0) ((4 : Int32)).toNatClampNeg)) (hR (sAI h (hR h 1234 v0) (v2).toNatClampNeg (hAI h (hR h 1249 v0) ((4 : Int32)).toNatClampNeg)) 1249 v0) ((5 : Int32)).toNatClampNeg)) 1233 v0)] (sAI (sAI h (hR h 1234 v0) (v2).toNatClampNeg (hAI h (hR h 1249 v0) ((4 : Int32)).toNatClampNeg)) (hR (sAI h (hR h 1234 v0) (v2).toNatClampNeg (hAI h (hR h 1249 v0) ((4 : Int32)).toNatClampNeg)) 1232 v0) (v2).toNatClampNeg (hAI (sAI h (hR h 1234 v0) (v2).toNatClampNeg (hAI h (hR h 1249 v0) ((4 : Int32)).toNatClampNeg)) (hR (sAI h (hR h 1234 v0) (v2).toNatClampNeg (hAI h (hR h 1249 v0) ((4 : Int32)).toNatClampNeg)) 1249 v0) ((5 : Int32)).toNatClampNeg)) Q))))))))))))))) : WP d mX12_promised 73 [some (.ref v0), some (.int v1), some (.int v2), u3, u4] [.ref s0] h Q := by
  refine w_iconst dX12_promised_73 i1_4 ?_
  obtain ⟨g1, k⟩ := k
  obtain ⟨g2, k⟩ := k
  refine w_iaload dX12_promised_74 g1 g2 ?_
  refine w_aload_n dX12_promised_75 rfl ?_
  obtain ⟨g3, k⟩ := k
  refine w_getR dX12_promised_76 f_12_108 t_12_34 g3 ?_
  refine w_iload_n dX12_promised_79 rfl ?_
  obtain ⟨g4, k⟩ := k
  obtain ⟨g5, k⟩ := k
  refine w_iaload dX12_promised_80 g4 g5 ?_
  refine w_ic_le (pc' := 108) dX12_promised_81 rfl rfl ⟨fun c => ?_, fun c => ?_⟩
  · replace k := k.1 c
    refine w_aload_n dX12_promised_108 rfl ?_
    refine w_getR dX12_promised_109 f_12_105 t_12_33 g3 ?_
    exact k
  · replace k := k.2 c
    refine w_aload_n dX12_promised_84 rfl ?_
    refine w_getR dX12_promised_85 f_12_108 t_12_34 g3 ?_
    refine w_iload_n dX12_promised_88 rfl ?_
    refine w_aload_n dX12_promised_89 rfl ?_
    refine w_getR dX12_promised_90 f_12_144 t_12_49 g3 ?_
    refine w_iconst dX12_promised_93 i1_4 ?_
    obtain ⟨g6, k⟩ := k
    obtain ⟨g7, k⟩ := k
    refine w_iaload dX12_promised_94 g6 g7 ?_
    refine w_iastore dX12_promised_95 g4 g5 ?_
    refine w_aload_n dX12_promised_96 rfl ?_
    obtain ⟨g8, k⟩ := k
    refine w_getR dX12_promised_97 f_12_102 t_12_32 g8 ?_
    refine w_iload_n dX12_promised_100 rfl ?_
    refine w_aload_n dX12_promised_101 rfl ?_
    refine w_getR dX12_promised_102 f_12_144 t_12_49 g8 ?_
    refine w_iconst dX12_promised_105 i1_5 ?_
    obtain ⟨g9, k⟩ := k
    obtain ⟨g10, k⟩ := k
    refine w_iaload dX12_promised_106 g9 g10 ?_
    obtain ⟨g11, k⟩ := k
    obtain ⟨g12, k⟩ := k
    refine w_iastore dX12_promised_107 g11 g12 ?_
    refine w_aload_n dX12_promised_108 rfl ?_
    obtain ⟨g13, k⟩ := k
    refine w_getR dX12_promised_109 f_12_105 t_12_33 g13 ?_
    exact k
theorem bX12_promised_112 {d : Nat} {h : HP} {Q : Out → HP → Prop} {v0 : Nat} {v1 : Int32} {v2 : Int32} {u3 : Option Value} {u4 : Option Value} {s0 : Nat} (k : (hK h s0 = 20) ∧ ((inA h s0 v2 = true) ∧ (WP d mX12_bits 0 [some (.int (hAI h s0 (v2).toNatClampNeg)), none, none] [] h (KK d mX12_promised mX12_bits 114 [some (.ref v0), some (.int v1), some (.int v2), u3, u4] [] Q)))) : WP (d + 1) mX12_promised 112 [some (.ref v0), some (.int v1), some (.int v2), u3, u4] [.ref s0] h Q := by
  refine w_iload_n dX12_promised_112 rfl ?_
  obtain ⟨g1, k⟩ := k
  obtain ⟨g2, k⟩ := k
  refine w_iaload dX12_promised_113 g1 g2 ?_
  exact w_stat (as1 := [.int (hAI h s0 (v2).toNatClampNeg)]) (as2 := [.int (hAI h s0 (v2).toNatClampNeg)]) (rest := []) (lo2 := [some (.int (hAI h s0 (v2).toNatClampNeg)), none, none]) dX12_promised_114 c_12_237 rfl rfl rfl (Nat.le_of_ble_eq_true rfl) (Nat.le_of_ble_eq_true rfl) rfl (Nat.le_of_ble_eq_true rfl) rfl k
theorem bX12_promised_117 {d : Nat} {h : HP} {Q : Out → HP → Prop} {v0 : Nat} {v1 : Int32} {v2 : Int32} {u3 : Option Value} {u4 : Option Value} {s0 : Int32} (k : (1 < v0) ∧ ((hK h v0 = 12) ∧ (WP d mX12_most 0 [some (.ref v0)] [] h (KK d mX12_promised mX12_most 118 [some (.ref v0), some (.int v1), some (.int v2), u3, u4] [.int s0] Q)))) : WP (d + 1) mX12_promised 117 [some (.ref v0), some (.int v1), some (.int v2), u3, u4] [.int s0] h Q := by
  refine w_aload_n dX12_promised_117 rfl ?_
  obtain ⟨g1, k⟩ := k
  obtain ⟨g2, k⟩ := k
  exact w_virt (as1 := [.ref v0]) (as2 := [.ref v0]) (rest := [.int s0]) (lo2 := [some (.ref v0)]) dX12_promised_118 c_12_241 rfl rfl rfl (Nat.le_of_ble_eq_true rfl) (Nat.le_of_ble_eq_true rfl) rfl (Nat.le_of_ble_eq_true rfl) rfl rfl g1 g2 k
theorem bX12_promised_121 {d : Nat} {h : HP} {Q : Out → HP → Prop} {v0 : Nat} {v1 : Int32} {v2 : Int32} {u3 : Option Value} {u4 : Option Value} {s0 : Int32} {s1 : Int32} (k : ((s0 ≤ s1) → (hK h v0 = 12) ∧ ((hK h (hR h 1235 v0) = 21) ∧ ((inA h (hR h 1235 v0) v2 = true) ∧ ((hK (sAI h (hR h 1235 v0) (v2).toNatClampNeg (1 : Int32)) v0 = 12) ∧ ((hK (sAI h (hR h 1235 v0) (v2).toNatClampNeg (1 : Int32)) (hR (sAI h (hR h 1235 v0) (v2).toNatClampNeg (1 : Int32)) 1231 v0) = 20) ∧ ((inA (sAI h (hR h 1235 v0) (v2).toNatClampNeg (1 : Int32)) (hR (sAI h (hR h 1235 v0) (v2).toNatClampNeg (1 : Int32)) 1231 v0) v2 = true) ∧ ((hK (sAI h (hR h 1235 v0) (v2).toNatClampNeg (1 : Int32)) (hR (sAI h (hR h 1235 v0) (v2).toNatClampNeg (1 : Int32)) 1228 v0) = 20) ∧ ((inA (sAI h (hR h 1235 v0) (v2).toNatClampNeg (1 : Int32)) (hR (sAI h (hR h 1235 v0) (v2).toNatClampNeg (1 : Int32)) 1228 v0) v2 = true) ∧ ((hK (sAI (sAI h (hR h 1235 v0) (v2).toNatClampNeg (1 : Int32)) (hR (sAI h (hR h 1235 v0) (v2).toNatClampNeg (1 : Int32)) 1228 v0) (v2).toNatClampNeg (hAI (sAI h (hR h 1235 v0) (v2).toNatClampNeg (1 : Int32)) (hR (sAI h (hR h 1235 v0) (v2).toNatClampNeg (1 : Int32)) 1231 v0) (v2).toNatClampNeg)) v0 = 12) ∧ (WP d mX12_promised 148 [some (.ref v0), some (.int v1), some (.int v2), u3, u4] [.ref (hR (sAI (sAI h (hR h 1235 v0) (v2).toNatClampNeg (1 : Int32)) (hR (sAI h (hR h 1235 v0) (v2).toNatClampNeg (1 : Int32)) 1228 v0) (v2).toNatClampNeg (hAI (sAI h (hR h 1235 v0) (v2).toNatClampNeg (1 : Int32)) (hR (sAI h (hR h 1235 v0) (v2).toNatClampNeg (1 : Int32)) 1231 v0) (v2).toNatClampNeg)) 1229 v0)] (sAI (sAI h (hR h 1235 v0) (v2).toNatClampNeg (1 : Int32)) (hR (sAI h (hR h 1235 v0) (v2).toNatClampNeg (1 : Int32)) 1228 v0) (v2).toNatClampNeg (hAI (sAI h (hR h 1235 v0) (v2).toNatClampNeg (1 : Int32)) (hR (sAI h (hR h 1235 v0) (v2).toNatClampNeg (1 : Int32)) 1231 v0) (v2).toNatClampNeg)) Q)))))))))) ∧ ((¬ (s0 ≤ s1)) → Q (.inl none) h)) : WP d mX12_promised 121 [some (.ref v0), some (.int v1), some (.int v2), u3, u4] [.int s0, .int s1] h Q := by
  refine w_ic_ge (pc' := 125) dX12_promised_121 rfl rfl ⟨fun c => ?_, fun c => ?_⟩
  · replace k := k.1 c
    refine w_aload_n dX12_promised_125 rfl ?_
    obtain ⟨g1, k⟩ := k
    refine w_getR dX12_promised_126 f_12_111 t_12_35 g1 ?_
    refine w_iload_n dX12_promised_129 rfl ?_
    refine w_iconst dX12_promised_130 i1_1 ?_
    obtain ⟨g2, k⟩ := k
    obtain ⟨g3, k⟩ := k
    refine w_bastore dX12_promised_131 g2 g3 rfl ?_
    refine w_aload_n dX12_promised_132 rfl ?_
    obtain ⟨g4, k⟩ := k
    refine w_getR dX12_promised_133 f_12_90 t_12_28 g4 ?_
    refine w_iload_n dX12_promised_136 rfl ?_
    refine w_aload_n dX12_promised_137 rfl ?_
    refine w_getR dX12_promised_138 f_12_99 t_12_31 g4 ?_
    refine w_iload_n dX12_promised_141 rfl ?_
    obtain ⟨g5, k⟩ := k
    obtain ⟨g6, k⟩ := k
    refine w_iaload dX12_promised_142 g5 g6 ?_
    obtain ⟨g7, k⟩ := k
    obtain ⟨g8, k⟩ := k
    refine w_iastore dX12_promised_143 g7 g8 ?_
    refine w_aload_n dX12_promised_144 rfl ?_
    obtain ⟨g9, k⟩ := k
    refine w_getR dX12_promised_145 f_12_93 t_12_29 g9 ?_
    exact k
  · replace k := k.2 c
    exact w_return dX12_promised_124 rfl k
theorem bX12_promised_148 {d : Nat} {h : HP} {Q : Out → HP → Prop} {v0 : Nat} {v1 : Int32} {v2 : Int32} {u3 : Option Value} {u4 : Option Value} {s0 : Nat} (k : (hK h v0 = 12) ∧ ((hK h (hR h 1232 v0) = 20) ∧ ((inA h (hR h 1232 v0) v2 = true) ∧ ((hK h s0 = 20) ∧ ((inA h s0 v2 = true) ∧ ((hK (sAI h s0 (v2).toNatClampNeg (hAI h (hR h 1232 v0) (v2).toNatClampNeg)) v0 = 12) ∧ ((hK (sAI h s0 (v2).toNatClampNeg (hAI h (hR h 1232 v0) (v2).toNatClampNeg)) (hR (sAI h s0 (v2).toNatClampNeg (hAI h (hR h 1232 v0) (v2).toNatClampNeg)) 1236 v0) = 20) ∧ ((inA (sAI h s0 (v2).toNatClampNeg (hAI h (hR h 1232 v0) (v2).toNatClampNeg)) (hR (sAI h s0 (v2).toNatClampNeg (hAI h (hR h 1232 v0) (v2).toNatClampNeg)) 1236 v0) v2 = true) ∧ (WP d mX12_promised 167 [some (.ref v0), some (.int v1), some (.int v2), some (.int (0 : Int32)), u4] [] (sAI (sAI h s0 (v2).toNatClampNeg (hAI h (hR h 1232 v0) (v2).toNatClampNeg)) (hR (sAI h s0 (v2).toNatClampNeg (hAI h (hR h 1232 v0) (v2).toNatClampNeg)) 1236 v0) (v2).toNatClampNeg ((1 : Int32) <<< (v1 &&& 31))) Q))))))))) : WP d mX12_promised 148 [some (.ref v0), some (.int v1), some (.int v2), u3, u4] [.ref s0] h Q := by
  refine w_iload_n dX12_promised_148 rfl ?_
  refine w_aload_n dX12_promised_149 rfl ?_
  obtain ⟨g1, k⟩ := k
  refine w_getR dX12_promised_150 f_12_102 t_12_32 g1 ?_
  refine w_iload_n dX12_promised_153 rfl ?_
  obtain ⟨g2, k⟩ := k
  obtain ⟨g3, k⟩ := k
  refine w_iaload dX12_promised_154 g2 g3 ?_
  obtain ⟨g4, k⟩ := k
  obtain ⟨g5, k⟩ := k
  refine w_iastore dX12_promised_155 g4 g5 ?_
  refine w_aload_n dX12_promised_156 rfl ?_
  obtain ⟨g6, k⟩ := k
  refine w_getR dX12_promised_157 f_12_114 t_12_36 g6 ?_
  refine w_iload_n dX12_promised_160 rfl ?_
  refine w_iconst dX12_promised_161 i1_1 ?_
  refine w_iload_n dX12_promised_162 rfl ?_
  refine w_ishl dX12_promised_163 ?_
  obtain ⟨g7, k⟩ := k
  obtain ⟨g8, k⟩ := k
  refine w_iastore dX12_promised_164 g7 g8 ?_
  refine w_iconst dX12_promised_165 i1_0 ?_
  refine w_istore_n (lo' := [some (.ref v0), some (.int v1), some (.int v2), some (.int (0 : Int32)), u4]) dX12_promised_166 (ltQ rfl) rfl ?_
  exact k
theorem bX12_promised_167 {d : Nat} {h : HP} {Q : Out → HP → Prop} {v0 : Nat} {v1 : Int32} {v2 : Int32} {v3 : Int32} {u4 : Option Value} (k : (hK h v0 = 12) ∧ ((((hI h 1200 v0) ≤ v3) → Q (.inl none) h) ∧ ((¬ ((hI h 1200 v0) ≤ v3)) → ((v3 = v1) → WP (d + 1) mX12_promised 167 [some (.ref v0), some (.int v1), some (.int v2), some (.int (v3 + (1 : Int32))), u4] [] h Q) ∧ ((¬ (v3 = v1)) → (hK h (hR h 1231 v0) = 20) ∧ ((inA h (hR h 1231 v0) v2 = true) ∧ ((1 < v0) ∧ (WP d mX12_sends 0 [some (.ref v0), some (.int (6 : Int32)), some (.int v1), some (.int v3), some (.int (hAI h (hR h 1231 v0) (v2).toNatClampNeg)), none, none] [] h (KK d mX12_promised mX12_sends 191 [some (.ref v0), some (.int v1), some (.int v2), some (.int v3), u4] [] Q)))))))) : WP (d + 1) mX12_promised 167 [some (.ref v0), some (.int v1), some (.int v2), some (.int v3), u4] [] h Q := by
  refine w_iload_n dX12_promised_167 rfl ?_
  refine w_aload_n dX12_promised_168 rfl ?_
  obtain ⟨g1, k⟩ := k
  refine w_getI dX12_promised_169 f_12_7 t_12_0 g1 ?_
  refine w_ic_ge (pc' := 241) dX12_promised_172 rfl rfl ⟨fun c => ?_, fun c => ?_⟩
  · replace k := k.1 c
    exact w_return dX12_promised_241 rfl k
  · replace k := k.2 c
    refine w_iload_n dX12_promised_175 rfl ?_
    refine w_iload_n dX12_promised_176 rfl ?_
    refine w_ic_eq (pc' := 235) dX12_promised_177 rfl rfl ⟨fun c => ?_, fun c => ?_⟩
    · replace k := k.1 c
      refine w_iinc (lo' := [some (.ref v0), some (.int v1), some (.int v2), some (.int (v3 + (1 : Int32))), u4]) dX12_promised_235 rfl i1_1 rfl ?_
      refine w_goto (pc' := 167) dX12_promised_238 rfl rfl ?_
      exact k
    · replace k := k.2 c
      refine w_aload_n dX12_promised_180 rfl ?_
      refine w_bipush dX12_promised_181 i2_6 ?_
      refine w_iload_n dX12_promised_183 rfl ?_
      refine w_iload_n dX12_promised_184 rfl ?_
      refine w_aload_n dX12_promised_185 rfl ?_
      refine w_getR dX12_promised_186 f_12_99 t_12_31 g1 ?_
      refine w_iload_n dX12_promised_189 rfl ?_
      obtain ⟨g2, k⟩ := k
      obtain ⟨g3, k⟩ := k
      refine w_iaload dX12_promised_190 g2 g3 ?_
      obtain ⟨g4, k⟩ := k
      exact w_virt (as1 := [.int (hAI h (hR h 1231 v0) (v2).toNatClampNeg), .int v3, .int v1, .int (6 : Int32), .ref v0]) (as2 := [.ref v0, .int (6 : Int32), .int v1, .int v3, .int (hAI h (hR h 1231 v0) (v2).toNatClampNeg)]) (rest := []) (lo2 := [some (.ref v0), some (.int (6 : Int32)), some (.int v1), some (.int v3), some (.int (hAI h (hR h 1231 v0) (v2).toNatClampNeg)), none, none]) dX12_promised_191 c_12_229 rfl rfl rfl (Nat.le_of_ble_eq_true rfl) (Nat.le_of_ble_eq_true rfl) rfl (Nat.le_of_ble_eq_true rfl) rfl rfl g4 g1 k
theorem bX12_promised_194 {d : Nat} {h : HP} {Q : Out → HP → Prop} {v0 : Nat} {v1 : Int32} {v2 : Int32} {v3 : Int32} {u4 : Option Value} {s0 : Int32} (k : ((s0 = (-1 : Int32)) → WP d mX12_promised 167 [some (.ref v0), some (.int v1), some (.int v2), some (.int (v3 + (1 : Int32))), some (.int s0)] [] h Q) ∧ ((¬ (s0 = (-1 : Int32))) → (hK h v0 = 12) ∧ ((hK h (hR h 1249 v0) = 20) ∧ ((inA h (hR h 1249 v0) (6 : Int32) = true) ∧ ((hK h (hR h 1237 v0) = 20) ∧ ((inA h (hR h 1237 v0) (s0 + (6 : Int32)) = true) ∧ ((hK (sAI h (hR h 1237 v0) ((s0 + (6 : Int32))).toNatClampNeg (hAI h (hR h 1249 v0) ((6 : Int32)).toNatClampNeg)) v0 = 12) ∧ ((hK (sAI h (hR h 1237 v0) ((s0 + (6 : Int32))).toNatClampNeg (hAI h (hR h 1249 v0) ((6 : Int32)).toNatClampNeg)) (hR (sAI h (hR h 1237 v0) ((s0 + (6 : Int32))).toNatClampNeg (hAI h (hR h 1249 v0) ((6 : Int32)).toNatClampNeg)) 1232 v0) = 20) ∧ ((inA (sAI h (hR h 1237 v0) ((s0 + (6 : Int32))).toNatClampNeg (hAI h (hR h 1249 v0) ((6 : Int32)).toNatClampNeg)) (hR (sAI h (hR h 1237 v0) ((s0 + (6 : Int32))).toNatClampNeg (hAI h (hR h 1249 v0) ((6 : Int32)).toNatClampNeg)) 1232 v0) v2 = true) ∧ (WP d mX12_promised 234 [some (.ref v0), some (.int v1), some (.int v2), some (.int v3), some (.int s0)] [.int (hAI (sAI h (hR h 1237 v0) ((s0 + (6 : Int32))).toNatClampNeg (hAI h (hR h 1249 v0) ((6 : Int32)).toNatClampNeg)) (hR (sAI h (hR h 1237 v0) ((s0 + (6 : Int32))).toNatClampNeg (hAI h (hR h 1249 v0) ((6 : Int32)).toNatClampNeg)) 1232 v0) (v2).toNatClampNeg), .int (s0 + (9 : Int32)), .ref (hR (sAI h (hR h 1237 v0) ((s0 + (6 : Int32))).toNatClampNeg (hAI h (hR h 1249 v0) ((6 : Int32)).toNatClampNeg)) 1237 v0)] (sAI h (hR h 1237 v0) ((s0 + (6 : Int32))).toNatClampNeg (hAI h (hR h 1249 v0) ((6 : Int32)).toNatClampNeg)) Q)))))))))) : WP d mX12_promised 194 [some (.ref v0), some (.int v1), some (.int v2), some (.int v3), u4] [.int s0] h Q := by
  refine w_istore (lo' := [some (.ref v0), some (.int v1), some (.int v2), some (.int v3), some (.int s0)]) dX12_promised_194 (ltQ rfl) rfl ?_
  refine w_iload dX12_promised_196 rfl ?_
  refine w_iconst dX12_promised_198 i1_m1 ?_
  refine w_ic_eq (pc' := 235) dX12_promised_199 rfl rfl ⟨fun c => ?_, fun c => ?_⟩
  · replace k := k.1 c
    refine w_iinc (lo' := [some (.ref v0), some (.int v1), some (.int v2), some (.int (v3 + (1 : Int32))), some (.int s0)]) dX12_promised_235 rfl i1_1 rfl ?_
    refine w_goto (pc' := 167) dX12_promised_238 rfl rfl ?_
    exact k
  · replace k := k.2 c
    refine w_aload_n dX12_promised_202 rfl ?_
    obtain ⟨g1, k⟩ := k
    refine w_getR dX12_promised_203 f_12_117 t_12_37 g1 ?_
    refine w_iload dX12_promised_206 rfl ?_
    refine w_bipush dX12_promised_208 i2_6 ?_
    refine w_iadd dX12_promised_210 ?_
    refine w_aload_n dX12_promised_211 rfl ?_
    refine w_getR dX12_promised_212 f_12_144 t_12_49 g1 ?_
    refine w_bipush dX12_promised_215 i2_6 ?_
    obtain ⟨g2, k⟩ := k
    obtain ⟨g3, k⟩ := k
    refine w_iaload dX12_promised_217 g2 g3 ?_
    obtain ⟨g4, k⟩ := k
    obtain ⟨g5, k⟩ := k
    refine w_iastore dX12_promised_218 g4 g5 ?_
    refine w_aload_n dX12_promised_219 rfl ?_
    obtain ⟨g6, k⟩ := k
    refine w_getR dX12_promised_220 f_12_117 t_12_37 g6 ?_
    refine w_iload dX12_promised_223 rfl ?_
    refine w_bipush dX12_promised_225 i2_9 ?_
    refine w_iadd dX12_promised_227 ?_
    refine w_aload_n dX12_promised_228 rfl ?_
    refine w_getR dX12_promised_229 f_12_102 t_12_32 g6 ?_
    refine w_iload_n dX12_promised_232 rfl ?_
    obtain ⟨g7, k⟩ := k
    obtain ⟨g8, k⟩ := k
    refine w_iaload dX12_promised_233 g7 g8 ?_
    exact k
theorem bX12_promised_234 {d : Nat} {h : HP} {Q : Out → HP → Prop} {v0 : Nat} {v1 : Int32} {v2 : Int32} {v3 : Int32} {v4 : Int32} {s0 : Int32} {s1 : Int32} {s2 : Nat} (k : (hK h s2 = 20) ∧ ((inA h s2 s1 = true) ∧ (WP d mX12_promised 167 [some (.ref v0), some (.int v1), some (.int v2), some (.int (v3 + (1 : Int32))), some (.int v4)] [] (sAI h s2 (s1).toNatClampNeg s0) Q))) : WP d mX12_promised 234 [some (.ref v0), some (.int v1), some (.int v2), some (.int v3), some (.int v4)] [.int s0, .int s1, .ref s2] h Q := by
  obtain ⟨g1, k⟩ := k
  obtain ⟨g2, k⟩ := k
  refine w_iastore dX12_promised_234 g1 g2 ?_
  refine w_iinc (lo' := [some (.ref v0), some (.int v1), some (.int v2), some (.int (v3 + (1 : Int32))), some (.int v4)]) dX12_promised_235 rfl i1_1 rfl ?_
  refine w_goto (pc' := 167) dX12_promised_238 rfl rfl ?_
  exact k
theorem bX12_accepted_0 {d : Nat} {h : HP} {Q : Out → HP → Prop} {v0 : Nat} {v1 : Int32} {u2 : Option Value} {u3 : Option Value} (k : (hK h v0 = 12) ∧ ((hK h (hR h 1249 v0) = 20) ∧ ((inA h (hR h 1249 v0) (6 : Int32) = true) ∧ ((inA h (hR h 1249 v0) (3 : Int32) = true) ∧ ((hK h (hR h 1227 v0) = 20) ∧ ((inA h (hR h 1227 v0) (((4 : Int32) * v1) + (hAI h (hR h 1249 v0) ((6 : Int32)).toNatClampNeg)) = true) ∧ ((((hAI h (hR h 1249 v0) ((3 : Int32)).toNatClampNeg) < (hAI h (hR h 1227 v0) ((((4 : Int32) * v1) + (hAI h (hR h 1249 v0) ((6 : Int32)).toNatClampNeg))).toNatClampNeg)) → Q (.inl none) h) ∧ ((¬ ((hAI h (hR h 1249 v0) ((3 : Int32)).toNatClampNeg) < (hAI h (hR h 1227 v0) ((((4 : Int32) * v1) + (hAI h (hR h 1249 v0) ((6 : Int32)).toNatClampNeg))).toNatClampNeg))) → (hK (sAI h (hR h 1227 v0) ((((4 : Int32) * v1) + (hAI h (hR h 1249 v0) ((6 : Int32)).toNatClampNeg))).toNatClampNeg (hAI h (hR h 1249 v0) ((3 : Int32)).toNatClampNeg)) v0 = 12) ∧ (WP d mX12_accepted 48 [some (.ref v0), some (.int v1), some (.int (((4 : Int32) * v1) + (hAI h (hR h 1249 v0) ((6 : Int32)).toNatClampNeg))), u3] [.ref (hR (sAI h (hR h 1227 v0) ((((4 : Int32) * v1) + (hAI h (hR h 1249 v0) ((6 : Int32)).toNatClampNeg))).toNatClampNeg (hAI h (hR h 1249 v0) ((3 : Int32)).toNatClampNeg)) 1249 v0), .int (((4 : Int32) * v1) + (hAI h (hR h 1249 v0) ((6 : Int32)).toNatClampNeg)), .ref (hR (sAI h (hR h 1227 v0) ((((4 : Int32) * v1) + (hAI h (hR h 1249 v0) ((6 : Int32)).toNatClampNeg))).toNatClampNeg (hAI h (hR h 1249 v0) ((3 : Int32)).toNatClampNeg)) 1228 v0)] (sAI h (hR h 1227 v0) ((((4 : Int32) * v1) + (hAI h (hR h 1249 v0) ((6 : Int32)).toNatClampNeg))).toNatClampNeg (hAI h (hR h 1249 v0) ((3 : Int32)).toNatClampNeg)) Q))))))))) : WP d mX12_accepted 0 [some (.ref v0), some (.int v1), u2, u3] [] h Q := by
  refine w_iconst dX12_accepted_0 i1_4 ?_
  refine w_iload_n dX12_accepted_1 rfl ?_
  refine w_imul dX12_accepted_2 ?_
  refine w_aload_n dX12_accepted_3 rfl ?_
  obtain ⟨g1, k⟩ := k
  refine w_getR dX12_accepted_4 f_12_144 t_12_49 g1 ?_
  refine w_bipush dX12_accepted_7 i2_6 ?_
  obtain ⟨g2, k⟩ := k
  obtain ⟨g3, k⟩ := k
  refine w_iaload dX12_accepted_9 g2 g3 ?_
  refine w_iadd dX12_accepted_10 ?_
  refine w_istore_n (lo' := [some (.ref v0), some (.int v1), some (.int (((4 : Int32) * v1) + (hAI h (hR h 1249 v0) ((6 : Int32)).toNatClampNeg))), u3]) dX12_accepted_11 (ltQ rfl) rfl ?_
  refine w_aload_n dX12_accepted_12 rfl ?_
  refine w_getR dX12_accepted_13 f_12_144 t_12_49 g1 ?_
  refine w_iconst dX12_accepted_16 i1_3 ?_
  obtain ⟨g4, k⟩ := k
  refine w_iaload dX12_accepted_17 g2 g4 ?_
  refine w_aload_n dX12_accepted_18 rfl ?_
  refine w_getR dX12_accepted_19 f_12_87 t_12_27 g1 ?_
  refine w_iload_n dX12_accepted_22 rfl ?_
  obtain ⟨g5, k⟩ := k
  obtain ⟨g6, k⟩ := k
  refine w_iaload dX12_accepted_23 g5 g6 ?_
  refine w_ic_lt (pc' := 105) dX12_accepted_24 rfl rfl ⟨fun c => ?_, fun c => ?_⟩
  · replace k := k.1 c
    exact w_return dX12_accepted_105 rfl k
  · replace k := k.2 c
    refine w_aload_n dX12_accepted_27 rfl ?_
    refine w_getR dX12_accepted_28 f_12_87 t_12_27 g1 ?_
    refine w_iload_n dX12_accepted_31 rfl ?_
    refine w_aload_n dX12_accepted_32 rfl ?_
    refine w_getR dX12_accepted_33 f_12_144 t_12_49 g1 ?_
    refine w_iconst dX12_accepted_36 i1_3 ?_
    refine w_iaload dX12_accepted_37 g2 g4 ?_
    refine w_iastore dX12_accepted_38 g5 g6 ?_
    refine w_aload_n dX12_accepted_39 rfl ?_
    obtain ⟨g7, k⟩ := k
    refine w_getR dX12_accepted_40 f_12_90 t_12_28 g7 ?_
    refine w_iload_n dX12_accepted_43 rfl ?_
    refine w_aload_n dX12_accepted_44 rfl ?_
    refine w_getR dX12_accepted_45 f_12_144 t_12_49 g7 ?_
    exact k
theorem bX12_accepted_48 {d : Nat} {h : HP} {Q : Out → HP → Prop} {v0 : Nat} {v1 : Int32} {v2 : Int32} {u3 : Option Value} {s0 : Nat} {s1 : Int32} {s2 : Nat} (k : (hK h s0 = 20) ∧ ((inA h s0 (3 : Int32) = true) ∧ ((hK h s2 = 20) ∧ ((inA h s2 s1 = true) ∧ ((hK (sAI h s2 (s1).toNatClampNeg (hAI h s0 ((3 : Int32)).toNatClampNeg)) v0 = 12) ∧ ((hK (sAI h s2 (s1).toNatClampNeg (hAI h s0 ((3 : Int32)).toNatClampNeg)) (hR (sAI h s2 (s1).toNatClampNeg (hAI h s0 ((3 : Int32)).toNatClampNeg)) 1249 v0) = 20) ∧ ((inA (sAI h s2 (s1).toNatClampNeg (hAI h s0 ((3 : Int32)).toNatClampNeg)) (hR (sAI h s2 (s1).toNatClampNeg (hAI h s0 ((3 : Int32)).toNatClampNeg)) 1249 v0) (9 : Int32) = true) ∧ ((hK (sAI h s2 (s1).toNatClampNeg (hAI h s0 ((3 : Int32)).toNatClampNeg)) (hR (sAI h s2 (s1).toNatClampNeg (hAI h s0 ((3 : Int32)).toNatClampNeg)) 1229 v0) = 20) ∧ ((inA (sAI h s2 (s1).toNatClampNeg (hAI h s0 ((3 : Int32)).toNatClampNeg)) (hR (sAI h s2 (s1).toNatClampNeg (hAI h s0 ((3 : Int32)).toNatClampNeg)) 1229 v0) v2 = true) ∧ ((hK (sAI (sAI h s2 (s1).toNatClampNeg (hAI h s0 ((3 : Int32)).toNatClampNeg)) (hR (sAI h s2 (s1).toNatClampNeg (hAI h s0 ((3 : Int32)).toNatClampNeg)) 1229 v0) (v2).toNatClampNeg (hAI (sAI h s2 (s1).toNatClampNeg (hAI h s0 ((3 : Int32)).toNatClampNeg)) (hR (sAI h s2 (s1).toNatClampNeg (hAI h s0 ((3 : Int32)).toNatClampNeg)) 1249 v0) ((9 : Int32)).toNatClampNeg)) v0 = 12) ∧ (WP d mX12_accepted 72 [some (.ref v0), some (.int v1), some (.int v2), u3] [.ref (hR (sAI (sAI h s2 (s1).toNatClampNeg (hAI h s0 ((3 : Int32)).toNatClampNeg)) (hR (sAI h s2 (s1).toNatClampNeg (hAI h s0 ((3 : Int32)).toNatClampNeg)) 1229 v0) (v2).toNatClampNeg (hAI (sAI h s2 (s1).toNatClampNeg (hAI h s0 ((3 : Int32)).toNatClampNeg)) (hR (sAI h s2 (s1).toNatClampNeg (hAI h s0 ((3 : Int32)).toNatClampNeg)) 1249 v0) ((9 : Int32)).toNatClampNeg)) 1249 v0), .int v1, .int (7 : Int32), .ref v0] (sAI (sAI h s2 (s1).toNatClampNeg (hAI h s0 ((3 : Int32)).toNatClampNeg)) (hR (sAI h s2 (s1).toNatClampNeg (hAI h s0 ((3 : Int32)).toNatClampNeg)) 1229 v0) (v2).toNatClampNeg (hAI (sAI h s2 (s1).toNatClampNeg (hAI h s0 ((3 : Int32)).toNatClampNeg)) (hR (sAI h s2 (s1).toNatClampNeg (hAI h s0 ((3 : Int32)).toNatClampNeg)) 1249 v0) ((9 : Int32)).toNatClampNeg)) Q))))))))))) : WP d mX12_accepted 48 [some (.ref v0), some (.int v1), some (.int v2), u3] [.ref s0, .int s1, .ref s2] h Q := by
  refine w_iconst dX12_accepted_48 i1_3 ?_
  obtain ⟨g1, k⟩ := k
  obtain ⟨g2, k⟩ := k
  refine w_iaload dX12_accepted_49 g1 g2 ?_
  obtain ⟨g3, k⟩ := k
  obtain ⟨g4, k⟩ := k
  refine w_iastore dX12_accepted_50 g3 g4 ?_
  refine w_aload_n dX12_accepted_51 rfl ?_
  obtain ⟨g5, k⟩ := k
  refine w_getR dX12_accepted_52 f_12_93 t_12_29 g5 ?_
  refine w_iload_n dX12_accepted_55 rfl ?_
  refine w_aload_n dX12_accepted_56 rfl ?_
  refine w_getR dX12_accepted_57 f_12_144 t_12_49 g5 ?_
  refine w_bipush dX12_accepted_60 i2_9 ?_
  obtain ⟨g6, k⟩ := k
  obtain ⟨g7, k⟩ := k
  refine w_iaload dX12_accepted_62 g6 g7 ?_
  obtain ⟨g8, k⟩ := k
  obtain ⟨g9, k⟩ := k
  refine w_iastore dX12_accepted_63 g8 g9 ?_
  refine w_aload_n dX12_accepted_64 rfl ?_
  refine w_bipush dX12_accepted_65 i2_7 ?_
  refine w_iload_n dX12_accepted_67 rfl ?_
  refine w_aload_n dX12_accepted_68 rfl ?_
  obtain ⟨g10, k⟩ := k
  refine w_getR dX12_accepted_69 f_12_144 t_12_49 g10 ?_
  exact k
theorem bX12_accepted_72 {d : Nat} {h : HP} {Q : Out → HP → Prop} {v0 : Nat} {v1 : Int32} {v2 : Int32} {u3 : Option Value} {s0 : Nat} {s1 : Int32} {s2 : Int32} {s3 : Nat} (k : (hK h s0 = 20) ∧ ((inA h s0 (1 : Int32) = true) ∧ ((hK h v0 = 12) ∧ ((hK h (hR h 1249 v0) = 20) ∧ ((inA h (hR h 1249 v0) (3 : Int32) = true) ∧ ((1 < s3) ∧ ((hK h s3 = 12) ∧ (WP d mX12_sends 0 [some (.ref s3), some (.int s2), some (.int s1), some (.int (hAI h s0 ((1 : Int32)).toNatClampNeg)), some (.int (hAI h (hR h 1249 v0) ((3 : Int32)).toNatClampNeg)), none, none] [] h (KK d mX12_accepted mX12_sends 80 [some (.ref v0), some (.int v1), some (.int v2), u3] [] Q))))))))) : WP (d + 1) mX12_accepted 72 [some (.ref v0), some (.int v1), some (.int v2), u3] [.ref s0, .int s1, .int s2, .ref s3] h Q := by
  refine w_iconst dX12_accepted_72 i1_1 ?_
  obtain ⟨g1, k⟩ := k
  obtain ⟨g2, k⟩ := k
  refine w_iaload dX12_accepted_73 g1 g2 ?_
  refine w_aload_n dX12_accepted_74 rfl ?_
  obtain ⟨g3, k⟩ := k
  refine w_getR dX12_accepted_75 f_12_144 t_12_49 g3 ?_
  refine w_iconst dX12_accepted_78 i1_3 ?_
  obtain ⟨g4, k⟩ := k
  obtain ⟨g5, k⟩ := k
  refine w_iaload dX12_accepted_79 g4 g5 ?_
  obtain ⟨g6, k⟩ := k
  obtain ⟨g7, k⟩ := k
  exact w_virt (as1 := [.int (hAI h (hR h 1249 v0) ((3 : Int32)).toNatClampNeg), .int (hAI h s0 ((1 : Int32)).toNatClampNeg), .int s1, .int s2, .ref s3]) (as2 := [.ref s3, .int s2, .int s1, .int (hAI h s0 ((1 : Int32)).toNatClampNeg), .int (hAI h (hR h 1249 v0) ((3 : Int32)).toNatClampNeg)]) (rest := []) (lo2 := [some (.ref s3), some (.int s2), some (.int s1), some (.int (hAI h s0 ((1 : Int32)).toNatClampNeg)), some (.int (hAI h (hR h 1249 v0) ((3 : Int32)).toNatClampNeg)), none, none]) dX12_accepted_80 c_12_229 rfl rfl rfl (Nat.le_of_ble_eq_true rfl) (Nat.le_of_ble_eq_true rfl) rfl (Nat.le_of_ble_eq_true rfl) rfl rfl g6 g7 k
theorem bX12_accepted_83 {d : Nat} {h : HP} {Q : Out → HP → Prop} {v0 : Nat} {v1 : Int32} {v2 : Int32} {u3 : Option Value} {s0 : Int32} (k : ((s0 = (-1 : Int32)) → Q (.inl none) h) ∧ ((¬ (s0 = (-1 : Int32))) → (hK h v0 = 12) ∧ ((hK h (hR h 1249 v0) = 20) ∧ ((inA h (hR h 1249 v0) (6 : Int32) = true) ∧ ((hK h (hR h 1237 v0) = 20) ∧ ((inA h (hR h 1237 v0) (s0 + (6 : Int32)) = true) ∧ (Q (.inl none) (sAI h (hR h 1237 v0) ((s0 + (6 : Int32))).toNatClampNeg (hAI h (hR h 1249 v0) ((6 : Int32)).toNatClampNeg))))))))) : WP d mX12_accepted 83 [some (.ref v0), some (.int v1), some (.int v2), u3] [.int s0] h Q := by
  refine w_istore_n (lo' := [some (.ref v0), some (.int v1), some (.int v2), some (.int s0)]) dX12_accepted_83 (ltQ rfl) rfl ?_
  refine w_iload_n dX12_accepted_84 rfl ?_
  refine w_iconst dX12_accepted_85 i1_m1 ?_
  refine w_ic_eq (pc' := 105) dX12_accepted_86 rfl rfl ⟨fun c => ?_, fun c => ?_⟩
  · replace k := k.1 c
    exact w_return dX12_accepted_105 rfl k
  · replace k := k.2 c
    refine w_aload_n dX12_accepted_89 rfl ?_
    obtain ⟨g1, k⟩ := k
    refine w_getR dX12_accepted_90 f_12_117 t_12_37 g1 ?_
    refine w_iload_n dX12_accepted_93 rfl ?_
    refine w_bipush dX12_accepted_94 i2_6 ?_
    refine w_iadd dX12_accepted_96 ?_
    refine w_aload_n dX12_accepted_97 rfl ?_
    refine w_getR dX12_accepted_98 f_12_144 t_12_49 g1 ?_
    refine w_bipush dX12_accepted_101 i2_6 ?_
    obtain ⟨g2, k⟩ := k
    obtain ⟨g3, k⟩ := k
    refine w_iaload dX12_accepted_103 g2 g3 ?_
    obtain ⟨g4, k⟩ := k
    obtain ⟨g5, k⟩ := k
    refine w_iastore dX12_accepted_104 g4 g5 ?_
    exact w_return dX12_accepted_105 rfl k
theorem bX12_counts_0 {d : Nat} {h : HP} {Q : Out → HP → Prop} {v0 : Nat} {v1 : Int32} {u2 : Option Value} (k : (hK h v0 = 12) ∧ ((hK h (hR h 1249 v0) = 20) ∧ ((inA h (hR h 1249 v0) (6 : Int32) = true) ∧ ((hK h (hR h 1231 v0) = 20) ∧ ((inA h (hR h 1231 v0) (((4 : Int32) * v1) + (hAI h (hR h 1249 v0) ((6 : Int32)).toNatClampNeg)) = true) ∧ ((inA h (hR h 1249 v0) (3 : Int32) = true) ∧ (((¬ (hAI h (hR h 1231 v0) ((((4 : Int32) * v1) + (hAI h (hR h 1249 v0) ((6 : Int32)).toNatClampNeg))).toNatClampNeg) = (hAI h (hR h 1249 v0) ((3 : Int32)).toNatClampNeg)) → Q (.inl none) h) ∧ ((¬ (¬ (hAI h (hR h 1231 v0) ((((4 : Int32) * v1) + (hAI h (hR h 1249 v0) ((6 : Int32)).toNatClampNeg))).toNatClampNeg) = (hAI h (hR h 1249 v0) ((3 : Int32)).toNatClampNeg))) → (hK h (hR h 1235 v0) = 21) ∧ ((inA h (hR h 1235 v0) (((4 : Int32) * v1) + (hAI h (hR h 1249 v0) ((6 : Int32)).toNatClampNeg)) = true) ∧ ((((hAI h (hR h 1235 v0) ((((4 : Int32) * v1) + (hAI h (hR h 1249 v0) ((6 : Int32)).toNatClampNeg))).toNatClampNeg) = 0) → Q (.inl none) h) ∧ ((¬ ((hAI h (hR h 1235 v0) ((((4 : Int32) * v1) + (hAI h (hR h 1249 v0) ((6 : Int32)).toNatClampNeg))).toNatClampNeg) = 0)) → (hK h (hR h 1236 v0) = 20) ∧ ((inA h (hR h 1236 v0) (((4 : Int32) * v1) + (hAI h (hR h 1249 v0) ((6 : Int32)).toNatClampNeg)) = true) ∧ ((inA h (hR h 1249 v0) (1 : Int32) = true) ∧ ((hK (sAI h (hR h 1236 v0) ((((4 : Int32) * v1) + (hAI h (hR h 1249 v0) ((6 : Int32)).toNatClampNeg))).toNatClampNeg ((hAI h (hR h 1236 v0) ((((4 : Int32) * v1) + (hAI h (hR h 1249 v0) ((6 : Int32)).toNatClampNeg))).toNatClampNeg) ||| ((1 : Int32) <<< ((hAI h (hR h 1249 v0) ((1 : Int32)).toNatClampNeg) &&& 31)))) v0 = 12) ∧ (WP d mX12_counts 57 [some (.ref v0), some (.int v1), some (.int (((4 : Int32) * v1) + (hAI h (hR h 1249 v0) ((6 : Int32)).toNatClampNeg)))] [.ref (hR (sAI h (hR h 1236 v0) ((((4 : Int32) * v1) + (hAI h (hR h 1249 v0) ((6 : Int32)).toNatClampNeg))).toNatClampNeg ((hAI h (hR h 1236 v0) ((((4 : Int32) * v1) + (hAI h (hR h 1249 v0) ((6 : Int32)).toNatClampNeg))).toNatClampNeg) ||| ((1 : Int32) <<< ((hAI h (hR h 1249 v0) ((1 : Int32)).toNatClampNeg) &&& 31)))) 1236 v0)] (sAI h (hR h 1236 v0) ((((4 : Int32) * v1) + (hAI h (hR h 1249 v0) ((6 : Int32)).toNatClampNeg))).toNatClampNeg ((hAI h (hR h 1236 v0) ((((4 : Int32) * v1) + (hAI h (hR h 1249 v0) ((6 : Int32)).toNatClampNeg))).toNatClampNeg) ||| ((1 : Int32) <<< ((hAI h (hR h 1249 v0) ((1 : Int32)).toNatClampNeg) &&& 31)))) Q))))))))))))))) : WP d mX12_counts 0 [some (.ref v0), some (.int v1), u2] [] h Q := by
  refine w_iconst dX12_counts_0 i1_4 ?_
  refine w_iload_n dX12_counts_1 rfl ?_
  refine w_imul dX12_counts_2 ?_
  refine w_aload_n dX12_counts_3 rfl ?_
  obtain ⟨g1, k⟩ := k
  refine w_getR dX12_counts_4 f_12_144 t_12_49 g1 ?_
  refine w_bipush dX12_counts_7 i2_6 ?_
  obtain ⟨g2, k⟩ := k
  obtain ⟨g3, k⟩ := k
  refine w_iaload dX12_counts_9 g2 g3 ?_
  refine w_iadd dX12_counts_10 ?_
  refine w_istore_n (lo' := [some (.ref v0), some (.int v1), some (.int (((4 : Int32) * v1) + (hAI h (hR h 1249 v0) ((6 : Int32)).toNatClampNeg)))]) dX12_counts_11 (ltQ rfl) rfl ?_
  refine w_aload_n dX12_counts_12 rfl ?_
  refine w_getR dX12_counts_13 f_12_99 t_12_31 g1 ?_
  refine w_iload_n dX12_counts_16 rfl ?_
  obtain ⟨g4, k⟩ := k
  obtain ⟨g5, k⟩ := k
  refine w_iaload dX12_counts_17 g4 g5 ?_
  refine w_aload_n dX12_counts_18 rfl ?_
  refine w_getR dX12_counts_19 f_12_144 t_12_49 g1 ?_
  refine w_iconst dX12_counts_22 i1_3 ?_
  obtain ⟨g6, k⟩ := k
  refine w_iaload dX12_counts_23 g2 g6 ?_
  refine w_ic_ne (pc' := 91) dX12_counts_24 rfl rfl ⟨fun c => ?_, fun c => ?_⟩
  · replace k := k.1 c
    exact w_return dX12_counts_91 rfl k
  · replace k := k.2 c
    refine w_aload_n dX12_counts_27 rfl ?_
    refine w_getR dX12_counts_28 f_12_111 t_12_35 g1 ?_
    refine w_iload_n dX12_counts_31 rfl ?_
    obtain ⟨g7, k⟩ := k
    obtain ⟨g8, k⟩ := k
    refine w_baload dX12_counts_32 g7 g8 ?_
    refine w_if_eq (pc' := 91) dX12_counts_33 rfl rfl ⟨fun c => ?_, fun c => ?_⟩
    · replace k := k.1 c
      exact w_return dX12_counts_91 rfl k
    · replace k := k.2 c
      refine w_aload_n dX12_counts_36 rfl ?_
      refine w_getR dX12_counts_37 f_12_114 t_12_36 g1 ?_
      refine w_iload_n dX12_counts_40 rfl ?_
      refine w_dup2 dX12_counts_41 rfl rfl ?_
      obtain ⟨g9, k⟩ := k
      obtain ⟨g10, k⟩ := k
      refine w_iaload dX12_counts_42 g9 g10 ?_
      refine w_iconst dX12_counts_43 i1_1 ?_
      refine w_aload_n dX12_counts_44 rfl ?_
      refine w_getR dX12_counts_45 f_12_144 t_12_49 g1 ?_
      refine w_iconst dX12_counts_48 i1_1 ?_
      obtain ⟨g11, k⟩ := k
      refine w_iaload dX12_counts_49 g2 g11 ?_
      refine w_ishl dX12_counts_50 ?_
      refine w_ior dX12_counts_51 ?_
      refine w_iastore dX12_counts_52 g9 g10 ?_
      refine w_aload_n dX12_counts_53 rfl ?_
      obtain ⟨g12, k⟩ := k
      refine w_getR dX12_counts_54 f_12_114 t_12_36 g12 ?_
      exact k
theorem bX12_counts_57 {d : Nat} {h : HP} {Q : Out → HP → Prop} {v0 : Nat} {v1 : Int32} {v2 : Int32} {s0 : Nat} (k : (hK h s0 = 20) ∧ ((inA h s0 v2 = true) ∧ (WP d mX12_bits 0 [some (.int (hAI h s0 (v2).toNatClampNeg)), none, none] [] h (KK d mX12_counts mX12_bits 59 [some (.ref v0), some (.int v1), some (.int v2)] [] Q)))) : WP (d + 1) mX12_counts 57 [some (.ref v0), some (.int v1), some (.int v2)] [.ref s0] h Q := by
  refine w_iload_n dX12_counts_57 rfl ?_
  obtain ⟨g1, k⟩ := k
  obtain ⟨g2, k⟩ := k
  refine w_iaload dX12_counts_58 g1 g2 ?_
  exact w_stat (as1 := [.int (hAI h s0 (v2).toNatClampNeg)]) (as2 := [.int (hAI h s0 (v2).toNatClampNeg)]) (rest := []) (lo2 := [some (.int (hAI h s0 (v2).toNatClampNeg)), none, none]) dX12_counts_59 c_12_237 rfl rfl rfl (Nat.le_of_ble_eq_true rfl) (Nat.le_of_ble_eq_true rfl) rfl (Nat.le_of_ble_eq_true rfl) rfl k
theorem bX12_counts_62 {d : Nat} {h : HP} {Q : Out → HP → Prop} {v0 : Nat} {v1 : Int32} {v2 : Int32} {s0 : Int32} (k : (1 < v0) ∧ ((hK h v0 = 12) ∧ (WP d mX12_most 0 [some (.ref v0)] [] h (KK d mX12_counts mX12_most 63 [some (.ref v0), some (.int v1), some (.int v2)] [.int s0] Q)))) : WP (d + 1) mX12_counts 62 [some (.ref v0), some (.int v1), some (.int v2)] [.int s0] h Q := by
  refine w_aload_n dX12_counts_62 rfl ?_
  obtain ⟨g1, k⟩ := k
  obtain ⟨g2, k⟩ := k
  exact w_virt (as1 := [.ref v0]) (as2 := [.ref v0]) (rest := [.int s0]) (lo2 := [some (.ref v0)]) dX12_counts_63 c_12_241 rfl rfl rfl (Nat.le_of_ble_eq_true rfl) (Nat.le_of_ble_eq_true rfl) rfl (Nat.le_of_ble_eq_true rfl) rfl rfl g1 g2 k
theorem bX12_counts_66 {d : Nat} {h : HP} {Q : Out → HP → Prop} {v0 : Nat} {v1 : Int32} {v2 : Int32} {s0 : Int32} {s1 : Int32} (k : ((s1 < s0) → Q (.inl none) h) ∧ ((¬ (s1 < s0)) → (hK h v0 = 12) ∧ ((hK h (hR h 1230 v0) = 20) ∧ ((inA h (hR h 1230 v0) v2 = true) ∧ (((¬ (hAI h (hR h 1230 v0) (v2).toNatClampNeg) = (-1 : Int32)) → Q (.inl none) h) ∧ ((¬ (¬ (hAI h (hR h 1230 v0) (v2).toNatClampNeg) = (-1 : Int32))) → (hK h (hR h 1232 v0) = 20) ∧ ((inA h (hR h 1232 v0) v2 = true) ∧ (Q (.inl none) (sAI h (hR h 1230 v0) (v2).toNatClampNeg (hAI h (hR h 1232 v0) (v2).toNatClampNeg)))))))))) : WP d mX12_counts 66 [some (.ref v0), some (.int v1), some (.int v2)] [.int s0, .int s1] h Q := by
  refine w_ic_lt (pc' := 91) dX12_counts_66 rfl rfl ⟨fun c => ?_, fun c => ?_⟩
  · replace k := k.1 c
    exact w_return dX12_counts_91 rfl k
  · replace k := k.2 c
    refine w_aload_n dX12_counts_69 rfl ?_
    obtain ⟨g1, k⟩ := k
    refine w_getR dX12_counts_70 f_12_96 t_12_30 g1 ?_
    refine w_iload_n dX12_counts_73 rfl ?_
    obtain ⟨g2, k⟩ := k
    obtain ⟨g3, k⟩ := k
    refine w_iaload dX12_counts_74 g2 g3 ?_
    refine w_iconst dX12_counts_75 i1_m1 ?_
    refine w_ic_ne (pc' := 91) dX12_counts_76 rfl rfl ⟨fun c => ?_, fun c => ?_⟩
    · replace k := k.1 c
      exact w_return dX12_counts_91 rfl k
    · replace k := k.2 c
      refine w_aload_n dX12_counts_79 rfl ?_
      refine w_getR dX12_counts_80 f_12_96 t_12_30 g1 ?_
      refine w_iload_n dX12_counts_83 rfl ?_
      refine w_aload_n dX12_counts_84 rfl ?_
      refine w_getR dX12_counts_85 f_12_102 t_12_32 g1 ?_
      refine w_iload_n dX12_counts_88 rfl ?_
      obtain ⟨g4, k⟩ := k
      obtain ⟨g5, k⟩ := k
      refine w_iaload dX12_counts_89 g4 g5 ?_
      refine w_iastore dX12_counts_90 g2 g3 ?_
      exact w_return dX12_counts_91 rfl k
theorem bX12_steps_0 {d : Nat} {h : HP} {Q : Out → HP → Prop} {v0 : Nat} (k : (hK h v0 = 12) ∧ ((hK (sI h 1250 v0 (0 : Int32)) v0 = 12) ∧ (Q (.inl (some (.int (hI (sI h 1250 v0 (0 : Int32)) 1204 v0)))) (sI h 1250 v0 (0 : Int32))))) : WP d mX12_steps 0 [some (.ref v0)] [] h Q := by
  refine w_aload_n dX12_steps_0 rfl ?_
  refine w_iconst dX12_steps_1 i1_0 ?_
  obtain ⟨g1, k⟩ := k
  refine w_putI dX12_steps_2 f_12_151 t_12_50 (pf_nf n_12_50) g1 ?_
  refine w_aload_n dX12_steps_5 rfl ?_
  obtain ⟨g2, k⟩ := k
  refine w_getI dX12_steps_6 f_12_164 t_12_4 g2 ?_
  exact w_ireturn dX12_steps_9 rfl k
theorem bX12_messages_0 {d : Nat} {h : HP} {Q : Out → HP → Prop} {v0 : Nat} (k : (hK h v0 = 12) ∧ ((hK (sI h 1250 v0 (0 : Int32)) v0 = 12) ∧ (Q (.inl (some (.int (hI (sI h 1250 v0 (0 : Int32)) 1239 v0)))) (sI h 1250 v0 (0 : Int32))))) : WP d mX12_messages 0 [some (.ref v0)] [] h Q := by
  refine w_aload_n dX12_messages_0 rfl ?_
  refine w_iconst dX12_messages_1 i1_0 ?_
  obtain ⟨g1, k⟩ := k
  refine w_putI dX12_messages_2 f_12_151 t_12_50 (pf_nf n_12_50) g1 ?_
  refine w_aload_n dX12_messages_5 rfl ?_
  obtain ⟨g2, k⟩ := k
  refine w_getI dX12_messages_6 f_12_167 t_12_39 g2 ?_
  exact w_ireturn dX12_messages_9 rfl k
theorem bX12_message_0 {d : Nat} {h : HP} {Q : Out → HP → Prop} {v0 : Nat} {v1 : Int32} {v2 : Int32} {u3 : Option Value} (k : (1 < v0) ∧ ((hK h v0 = 12) ∧ (WP d mX12_isMessage 0 [some (.ref v0), some (.int v1)] [] h (KK d mX12_message mX12_isMessage 2 [some (.ref v0), some (.int v1), some (.int v2), u3] [] Q)))) : WP (d + 1) mX12_message 0 [some (.ref v0), some (.int v1), some (.int v2), u3] [] h Q := by
  refine w_aload_n dX12_message_0 rfl ?_
  refine w_iload_n dX12_message_1 rfl ?_
  obtain ⟨g1, k⟩ := k
  obtain ⟨g2, k⟩ := k
  exact w_virt (as1 := [.int v1, .ref v0]) (as2 := [.ref v0, .int v1]) (rest := []) (lo2 := [some (.ref v0), some (.int v1)]) dX12_message_2 c_12_195 rfl rfl rfl (Nat.le_of_ble_eq_true rfl) (Nat.le_of_ble_eq_true rfl) rfl (Nat.le_of_ble_eq_true rfl) rfl rfl g1 g2 k
theorem bX12_message_5 {d : Nat} {h : HP} {Q : Out → HP → Prop} {v0 : Nat} {v1 : Int32} {v2 : Int32} {u3 : Option Value} {s0 : Int32} (k : WP d mX12_in 0 [some (.int v2), some (.int (0 : Int32)), some (.int (4 : Int32))] [] h (KK d mX12_message mX12_in 11 [some (.ref v0), some (.int v1), some (.int v2), some (.int s0)] [.int s0, .ref v0] Q)) : WP (d + 1) mX12_message 5 [some (.ref v0), some (.int v1), some (.int v2), u3] [.int s0] h Q := by
  refine w_istore_n (lo' := [some (.ref v0), some (.int v1), some (.int v2), some (.int s0)]) dX12_message_5 (ltQ rfl) rfl ?_
  refine w_aload_n dX12_message_6 rfl ?_
  refine w_iload_n dX12_message_7 rfl ?_
  refine w_iload_n dX12_message_8 rfl ?_
  refine w_iconst dX12_message_9 i1_0 ?_
  refine w_iconst dX12_message_10 i1_4 ?_
  exact w_stat (as1 := [.int (4 : Int32), .int (0 : Int32), .int v2]) (as2 := [.int v2, .int (0 : Int32), .int (4 : Int32)]) (rest := [.int s0, .ref v0]) (lo2 := [some (.int v2), some (.int (0 : Int32)), some (.int (4 : Int32))]) dX12_message_11 c_12_154 rfl rfl rfl (Nat.le_of_ble_eq_true rfl) (Nat.le_of_ble_eq_true rfl) rfl (Nat.le_of_ble_eq_true rfl) rfl k
theorem bX12_message_14 {d : Nat} {h : HP} {Q : Out → HP → Prop} {v0 : Nat} {v1 : Int32} {v2 : Int32} {v3 : Int32} {s0 : Int32} {s1 : Int32} {s2 : Nat} (k : (1 < s2) ∧ ((hK h s2 = 12) ∧ (WP d mX12_goes 0 [some (.ref s2), some (.int s1), some (.int s0), some (.int (1 : Int32))] [] h (KK d mX12_message mX12_goes 15 [some (.ref v0), some (.int v1), some (.int v2), some (.int v3)] [] Q)))) : WP (d + 1) mX12_message 14 [some (.ref v0), some (.int v1), some (.int v2), some (.int v3)] [.int s0, .int s1, .ref s2] h Q := by
  refine w_iconst dX12_message_14 i1_1 ?_
  obtain ⟨g1, k⟩ := k
  obtain ⟨g2, k⟩ := k
  exact w_virt (as1 := [.int (1 : Int32), .int s0, .int s1, .ref s2]) (as2 := [.ref s2, .int s1, .int s0, .int (1 : Int32)]) (rest := []) (lo2 := [some (.ref s2), some (.int s1), some (.int s0), some (.int (1 : Int32))]) dX12_message_15 c_12_173 rfl rfl rfl (Nat.le_of_ble_eq_true rfl) (Nat.le_of_ble_eq_true rfl) rfl (Nat.le_of_ble_eq_true rfl) rfl rfl g1 g2 k
theorem bX12_message_18 {d : Nat} {h : HP} {Q : Out → HP → Prop} {v0 : Nat} {v1 : Int32} {v2 : Int32} {v3 : Int32} {s0 : Int32} (k : ((¬ s0 = 0) → (hK h v0 = 12) ∧ (((¬ v2 = (4 : Int32)) → (hK h (hR h 1237 v0) = 20) ∧ ((inA h (hR h 1237 v0) (((24 : Int32) * v1) + v2) = true) ∧ (Q (.inl (some (.int (hAI h (hR h 1237 v0) ((((24 : Int32) * v1) + v2)).toNatClampNeg)))) h))) ∧ ((¬ (¬ v2 = (4 : Int32))) → (hK h (hR h 1237 v0) = 20) ∧ ((inA h (hR h 1237 v0) (((24 : Int32) * v1) + (8 : Int32)) = true) ∧ (Q (.inl (some (.int (hAI h (hR h 1237 v0) ((((24 : Int32) * v1) + (8 : Int32))).toNatClampNeg)))) h))))) ∧ ((¬ (¬ s0 = 0)) → Q (.inl (some (.int (0 : Int32)))) h)) : WP d mX12_message 18 [some (.ref v0), some (.int v1), some (.int v2), some (.int v3)] [.int s0] h Q := by
  refine w_if_ne (pc' := 23) dX12_message_18 rfl rfl ⟨fun c => ?_, fun c => ?_⟩
  · replace k := k.1 c
    refine w_aload_n dX12_message_23 rfl ?_
    obtain ⟨g1, k⟩ := k
    refine w_getR dX12_message_24 f_12_117 t_12_37 g1 ?_
    refine w_bipush dX12_message_27 i2_24 ?_
    refine w_iload_n dX12_message_29 rfl ?_
    refine w_imul dX12_message_30 ?_
    refine w_iload_n dX12_message_31 rfl ?_
    refine w_iconst dX12_message_32 i1_4 ?_
    refine w_ic_ne (pc' := 41) dX12_message_33 rfl rfl ⟨fun c => ?_, fun c => ?_⟩
    · replace k := k.1 c
      refine w_iload_n dX12_message_41 rfl ?_
      refine w_iadd dX12_message_42 ?_
      obtain ⟨g2, k⟩ := k
      obtain ⟨g3, k⟩ := k
      refine w_iaload dX12_message_43 g2 g3 ?_
      exact w_ireturn dX12_message_44 rfl k
    · replace k := k.2 c
      refine w_bipush dX12_message_36 i2_8 ?_
      refine w_goto (pc' := 42) dX12_message_38 rfl rfl ?_
      refine w_iadd dX12_message_42 ?_
      obtain ⟨g4, k⟩ := k
      obtain ⟨g5, k⟩ := k
      refine w_iaload dX12_message_43 g4 g5 ?_
      exact w_ireturn dX12_message_44 rfl k
  · replace k := k.2 c
    refine w_iconst dX12_message_21 i1_0 ?_
    exact w_ireturn dX12_message_22 rfl k
