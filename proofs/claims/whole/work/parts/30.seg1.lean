/-! ===== segments: what the program does from a place to the next ===== -/
theorem bX0_init_0 {d : Nat} {h : HP} {Q : Out → HP → Prop} {v0 : Nat} (k : (1 < v0) ∧ (Q (.inl none) h)) : WP d mX0_init 0 [some (.ref v0)] [] h Q := by
  refine w_aload_n dX0_init_0 rfl ?_
  obtain ⟨g1, k⟩ := k
  refine w_obj dX0_init_1 c_0_3 (Nat.le_of_ble_eq_true rfl) rfl g1 ?_
  exact w_return dX0_init_4 rfl k
theorem bX0_start_0 {d : Nat} {h : HP} {Q : Out → HP → Prop} {v0 : Nat} {v1 : Int32} {v2 : Int32} {v3 : Int32} (k : (hK h v0 = 0) ∧ ((isZ v1 = true) ∧ (Q (.inl none) (sI (sI (sI (sI (sI (sI h 0 v0 v1) 3 v0 v2) 4 v0 v3) 5 v0 (-1 : Int32)) 1 v0 (-1 : Int32)) 2 v0 (-1 : Int32))))) : WP d mX0_start 0 [some (.ref v0), some (.int v1), some (.int v2), some (.int v3)] [] h Q := by
  refine w_aload_n dX0_start_0 rfl ?_
  refine w_iload_n dX0_start_1 rfl ?_
  obtain ⟨g1, k⟩ := k
  obtain ⟨g2, k⟩ := k
  refine w_putZ dX0_start_2 f_0_9 t_0_0 (pf_nf n_0_0) g1 g2 ?_
  refine w_aload_n dX0_start_5 rfl ?_
  refine w_iload_n dX0_start_6 rfl ?_
  refine w_putI dX0_start_7 f_0_15 t_0_3 (pf_nf n_0_3) g1 ?_
  refine w_aload_n dX0_start_10 rfl ?_
  refine w_iload_n dX0_start_11 rfl ?_
  refine w_putI dX0_start_12 f_0_19 t_0_4 (pf_nf n_0_4) g1 ?_
  refine w_aload_n dX0_start_15 rfl ?_
  refine w_iconst dX0_start_16 i1_m1 ?_
  refine w_putI dX0_start_17 f_0_22 t_0_5 (pf_nf n_0_5) g1 ?_
  refine w_aload_n dX0_start_20 rfl ?_
  refine w_iconst dX0_start_21 i1_m1 ?_
  refine w_putI dX0_start_22 f_0_25 t_0_1 (pf_nf n_0_1) g1 ?_
  refine w_aload_n dX0_start_25 rfl ?_
  refine w_iconst dX0_start_26 i1_m1 ?_
  refine w_putI dX0_start_27 f_0_28 t_0_2 (pf_nf n_0_2) g1 ?_
  exact w_return dX0_start_30 rfl k
theorem bX0_isAnsweredAhead_0 {d : Nat} {h : HP} {Q : Out → HP → Prop} {v0 : Nat} {v1 : Int32} (k : (hK h v0 = 0) ∧ ((((hI h 5 v0) = (-1 : Int32)) → Q (.inl (some (.int (0 : Int32)))) h) ∧ ((¬ ((hI h 5 v0) = (-1 : Int32))) → ((v1 ≤ (hI h 5 v0)) → Q (.inl (some (.int (0 : Int32)))) h) ∧ ((¬ (v1 ≤ (hI h 5 v0))) → Q (.inl (some (.int (1 : Int32)))) h)))) : WP d mX0_isAnsweredAhead 0 [some (.ref v0), some (.int v1)] [] h Q := by
  refine w_aload_n dX0_isAnsweredAhead_0 rfl ?_
  obtain ⟨g1, k⟩ := k
  refine w_getI dX0_isAnsweredAhead_1 f_0_22 t_0_5 g1 ?_
  refine w_iconst dX0_isAnsweredAhead_4 i1_m1 ?_
  refine w_ic_eq (pc' := 20) dX0_isAnsweredAhead_5 rfl rfl ⟨fun c => ?_, fun c => ?_⟩
  · replace k := k.1 c
    refine w_iconst dX0_isAnsweredAhead_20 i1_0 ?_
    exact w_ireturn dX0_isAnsweredAhead_21 rfl k
  · replace k := k.2 c
    refine w_aload_n dX0_isAnsweredAhead_8 rfl ?_
    refine w_getI dX0_isAnsweredAhead_9 f_0_22 t_0_5 g1 ?_
    refine w_iload_n dX0_isAnsweredAhead_12 rfl ?_
    refine w_ic_ge (pc' := 20) dX0_isAnsweredAhead_13 rfl rfl ⟨fun c => ?_, fun c => ?_⟩
    · replace k := k.1 c
      refine w_iconst dX0_isAnsweredAhead_20 i1_0 ?_
      exact w_ireturn dX0_isAnsweredAhead_21 rfl k
    · replace k := k.2 c
      refine w_iconst dX0_isAnsweredAhead_16 i1_1 ?_
      refine w_goto (pc' := 21) dX0_isAnsweredAhead_17 rfl rfl ?_
      exact w_ireturn dX0_isAnsweredAhead_21 rfl k
theorem bX0_fitsBetween_0 {d : Nat} {h : HP} {Q : Out → HP → Prop} {v0 : Nat} {v1 : Int32} {v2 : Int32} (k : (hK h v0 = 0) ∧ ((((hI h 0 v0) = 0) → Q (.inl (some (.int (0 : Int32)))) h) ∧ ((¬ ((hI h 0 v0) = 0)) → ((v2 ≤ (hI h 4 v0)) → Q (.inl (some (.int (0 : Int32)))) h) ∧ ((¬ (v2 ≤ (hI h 4 v0))) → (1 < v0) ∧ (WP d mX0_isAnsweredAhead 0 [some (.ref v0), some (.int v1)] [] h (KK d mX0_fitsBetween mX0_isAnsweredAhead 17 [some (.ref v0), some (.int v1), some (.int v2)] [] Q)))))) : WP (d + 1) mX0_fitsBetween 0 [some (.ref v0), some (.int v1), some (.int v2)] [] h Q := by
  refine w_aload_n dX0_fitsBetween_0 rfl ?_
  obtain ⟨g1, k⟩ := k
  refine w_getZ dX0_fitsBetween_1 f_0_9 t_0_0 g1 ?_
  refine w_if_eq (pc' := 27) dX0_fitsBetween_4 rfl rfl ⟨fun c => ?_, fun c => ?_⟩
  · replace k := k.1 c
    refine w_iconst dX0_fitsBetween_27 i1_0 ?_
    exact w_ireturn dX0_fitsBetween_28 rfl k
  · replace k := k.2 c
    refine w_aload_n dX0_fitsBetween_7 rfl ?_
    refine w_getI dX0_fitsBetween_8 f_0_19 t_0_4 g1 ?_
    refine w_iload_n dX0_fitsBetween_11 rfl ?_
    refine w_ic_ge (pc' := 27) dX0_fitsBetween_12 rfl rfl ⟨fun c => ?_, fun c => ?_⟩
    · replace k := k.1 c
      refine w_iconst dX0_fitsBetween_27 i1_0 ?_
      exact w_ireturn dX0_fitsBetween_28 rfl k
    · replace k := k.2 c
      refine w_aload_n dX0_fitsBetween_15 rfl ?_
      refine w_iload_n dX0_fitsBetween_16 rfl ?_
      obtain ⟨g2, k⟩ := k
      exact w_virt (as1 := [.int v1, .ref v0]) (as2 := [.ref v0, .int v1]) (rest := []) (lo2 := [some (.ref v0), some (.int v1)]) dX0_fitsBetween_17 c_0_31 rfl rfl rfl (Nat.le_of_ble_eq_true rfl) (Nat.le_of_ble_eq_true rfl) rfl (Nat.le_of_ble_eq_true rfl) rfl rfl g2 g1 k
theorem bX0_fitsBetween_20 {d : Nat} {h : HP} {Q : Out → HP → Prop} {v0 : Nat} {v1 : Int32} {v2 : Int32} {s0 : Int32} (k : ((¬ s0 = 0) → Q (.inl (some (.int (0 : Int32)))) h) ∧ ((¬ (¬ s0 = 0)) → Q (.inl (some (.int (1 : Int32)))) h)) : WP d mX0_fitsBetween 20 [some (.ref v0), some (.int v1), some (.int v2)] [.int s0] h Q := by
  refine w_if_ne (pc' := 27) dX0_fitsBetween_20 rfl rfl ⟨fun c => ?_, fun c => ?_⟩
  · replace k := k.1 c
    refine w_iconst dX0_fitsBetween_27 i1_0 ?_
    exact w_ireturn dX0_fitsBetween_28 rfl k
  · replace k := k.2 c
    refine w_iconst dX0_fitsBetween_23 i1_1 ?_
    refine w_goto (pc' := 28) dX0_fitsBetween_24 rfl rfl ?_
    exact w_ireturn dX0_fitsBetween_28 rfl k
theorem bX1_init_0 {d : Nat} {h : HP} {Q : Out → HP → Prop} {v0 : Nat} {v1 : Nat} {v2 : Nat} (k : (1 < v0) ∧ ((hK h v0 = 1) ∧ (Q (.inl none) (sR (sR h 100 v0 v1) 101 v0 v2)))) : WP d mX1_init 0 [some (.ref v0), some (.ref v1), some (.ref v2)] [] h Q := by
  refine w_aload_n dX1_init_0 rfl ?_
  obtain ⟨g1, k⟩ := k
  refine w_obj dX1_init_1 c_1_3 (Nat.le_of_ble_eq_true rfl) rfl g1 ?_
  refine w_aload_n dX1_init_4 rfl ?_
  refine w_aload_n dX1_init_5 rfl ?_
  obtain ⟨g2, k⟩ := k
  refine w_putR dX1_init_6 f_1_9 t_1_0 (pf_in rfl rfl) g2 ?_
  refine w_aload_n dX1_init_9 rfl ?_
  refine w_aload_n dX1_init_10 rfl ?_
  refine w_putR dX1_init_11 f_1_15 t_1_1 (pf_in rfl rfl) g2 ?_
  exact w_return dX1_init_14 rfl k
theorem bX1_letPropose_0 {d : Nat} {h : HP} {Q : Out → HP → Prop} {v0 : Nat} {v1 : Nat} {v2 : Int32} {v3 : Int32} {u4 : Option Value} {u5 : Option Value} (k : (hK h v1 = 8) ∧ ((25 ≤ hK h (hR h 803 v1) ∧ hK h (hR h 803 v1) ≤ 29) ∧ ((inA h (hR h 803 v1) v2 = true) ∧ ((1 < (hAR h (hR h 803 v1) (v2).toNatClampNeg)) ∧ ((hK h (hAR h (hR h 803 v1) (v2).toNatClampNeg) = 2) ∧ (WP d mX2_nextBallot 0 [some (.ref (hAR h (hR h 803 v1) (v2).toNatClampNeg)), some (.int (hI h 800 v1)), none] [] h (KK d mX1_letPropose mX2_nextBallot 16 [some (.ref v0), some (.ref v1), some (.int v2), some (.int v3), some (.ref (hAR h (hR h 803 v1) (v2).toNatClampNeg)), u5] [.ref (hAR h (hR h 803 v1) (v2).toNatClampNeg)] Q))))))) : WP (d + 1) mX1_letPropose 0 [some (.ref v0), some (.ref v1), some (.int v2), some (.int v3), u4, u5] [] h Q := by
  refine w_aload_n dX1_letPropose_0 rfl ?_
  obtain ⟨g1, k⟩ := k
  refine w_getR dX1_letPropose_1 f_1_19 t_8_3 g1 ?_
  refine w_iload_n dX1_letPropose_4 rfl ?_
  obtain ⟨g2, k⟩ := k
  obtain ⟨g3, k⟩ := k
  refine w_aaload dX1_letPropose_5 rfl g3 g2.1 g2.2 ?_
  refine w_astore (lo' := [some (.ref v0), some (.ref v1), some (.int v2), some (.int v3), some (.ref (hAR h (hR h 803 v1) (v2).toNatClampNeg)), u5]) dX1_letPropose_6 (ltQ rfl) rfl ?_
  refine w_aload dX1_letPropose_8 rfl ?_
  refine w_aload dX1_letPropose_10 rfl ?_
  refine w_aload_n dX1_letPropose_12 rfl ?_
  refine w_getI dX1_letPropose_13 f_1_25 t_8_0 g1 ?_
  obtain ⟨g4, k⟩ := k
  obtain ⟨g5, k⟩ := k
  exact w_virt (as1 := [.int (hI h 800 v1), .ref (hAR h (hR h 803 v1) (v2).toNatClampNeg)]) (as2 := [.ref (hAR h (hR h 803 v1) (v2).toNatClampNeg), .int (hI h 800 v1)]) (rest := [.ref (hAR h (hR h 803 v1) (v2).toNatClampNeg)]) (lo2 := [some (.ref (hAR h (hR h 803 v1) (v2).toNatClampNeg)), some (.int (hI h 800 v1)), none]) dX1_letPropose_16 c_1_29 rfl rfl rfl (Nat.le_of_ble_eq_true rfl) (Nat.le_of_ble_eq_true rfl) rfl (Nat.le_of_ble_eq_true rfl) rfl rfl g4 g5 k
theorem bX1_letPropose_19 {d : Nat} {h : HP} {Q : Out → HP → Prop} {v0 : Nat} {v1 : Nat} {v2 : Int32} {v3 : Int32} {v4 : Nat} {u5 : Option Value} {s0 : Int32} {s1 : Nat} (k : (hK h v1 = 8) ∧ ((1 < s1) ∧ ((hK h s1 = 2) ∧ (WP d mX2_startProposal 0 [some (.ref s1), some (.int s0), some (.int v3), some (.int (hI h 800 v1))] [] h (KK d mX1_letPropose mX2_startProposal 24 [some (.ref v0), some (.ref v1), some (.int v2), some (.int v3), some (.ref v4), u5] [] Q))))) : WP (d + 1) mX1_letPropose 19 [some (.ref v0), some (.ref v1), some (.int v2), some (.int v3), some (.ref v4), u5] [.int s0, .ref s1] h Q := by
  refine w_iload_n dX1_letPropose_19 rfl ?_
  refine w_aload_n dX1_letPropose_20 rfl ?_
  obtain ⟨g1, k⟩ := k
  refine w_getI dX1_letPropose_21 f_1_25 t_8_0 g1 ?_
  obtain ⟨g2, k⟩ := k
  obtain ⟨g3, k⟩ := k
  exact w_virt (as1 := [.int (hI h 800 v1), .int v3, .int s0, .ref s1]) (as2 := [.ref s1, .int s0, .int v3, .int (hI h 800 v1)]) (rest := []) (lo2 := [some (.ref s1), some (.int s0), some (.int v3), some (.int (hI h 800 v1))]) dX1_letPropose_24 c_1_35 rfl rfl rfl (Nat.le_of_ble_eq_true rfl) (Nat.le_of_ble_eq_true rfl) rfl (Nat.le_of_ble_eq_true rfl) rfl rfl g2 g3 k
theorem bX1_letPropose_27 {d : Nat} {h : HP} {Q : Out → HP → Prop} {v0 : Nat} {v1 : Nat} {v2 : Int32} {v3 : Int32} {v4 : Nat} {u5 : Option Value} (k : WP d mX1_letPropose 30 [some (.ref v0), some (.ref v1), some (.int v2), some (.int v3), some (.ref v4), some (.int (0 : Int32))] [] h Q) : WP d mX1_letPropose 27 [some (.ref v0), some (.ref v1), some (.int v2), some (.int v3), some (.ref v4), u5] [] h Q := by
  refine w_iconst dX1_letPropose_27 i1_0 ?_
  refine w_istore (lo' := [some (.ref v0), some (.ref v1), some (.int v2), some (.int v3), some (.ref v4), some (.int (0 : Int32))]) dX1_letPropose_28 (ltQ rfl) rfl ?_
  exact k
theorem bX1_letPropose_30 {d : Nat} {h : HP} {Q : Out → HP → Prop} {v0 : Nat} {v1 : Nat} {v2 : Int32} {v3 : Int32} {v4 : Nat} {v5 : Int32} (k : (hK h v0 = 1) ∧ ((hK h (hR h 101 v0) = 10) ∧ ((((hI h 1000 (hR h 101 v0)) ≤ v5) → (hK h v4 = 2) ∧ (Q (.inl (some (.int (hI h 204 v4)))) h)) ∧ ((¬ ((hI h 1000 (hR h 101 v0)) ≤ v5)) → (hK h v1 = 8) ∧ (((v5 = (hI h 800 v1)) → WP (d + 1) mX1_letPropose 30 [some (.ref v0), some (.ref v1), some (.int v2), some (.int v3), some (.ref v4), some (.int (v5 + (1 : Int32)))] [] h Q) ∧ ((¬ (v5 = (hI h 800 v1))) → (hK h v4 = 2) ∧ ((1 < (hR h 101 v0)) ∧ (WP d mX10_send 0 [some (.ref (hR h 101 v0)), some (.int (4 : Int32)), some (.int (hI h 800 v1)), some (.int v5), some (.int (hI h 204 v4)), none] [] h (KK d mX1_letPropose mX10_send 67 [some (.ref v0), some (.ref v1), some (.int v2), some (.int v3), some (.ref v4), some (.int v5)] [] Q))))))))) : WP (d + 1) mX1_letPropose 30 [some (.ref v0), some (.ref v1), some (.int v2), some (.int v3), some (.ref v4), some (.int v5)] [] h Q := by
  refine w_iload dX1_letPropose_30 rfl ?_
  refine w_aload_n dX1_letPropose_32 rfl ?_
  obtain ⟨g1, k⟩ := k
  refine w_getR dX1_letPropose_33 f_1_15 t_1_1 g1 ?_
  obtain ⟨g2, k⟩ := k
  refine w_getI dX1_letPropose_36 f_1_39 t_10_0 g2 ?_
  refine w_ic_ge (pc' := 80) dX1_letPropose_39 rfl rfl ⟨fun c => ?_, fun c => ?_⟩
  · replace k := k.1 c
    refine w_aload dX1_letPropose_80 rfl ?_
    obtain ⟨g3, k⟩ := k
    refine w_getI dX1_letPropose_82 f_1_44 t_2_4 g3 ?_
    exact w_ireturn dX1_letPropose_85 rfl k
  · replace k := k.2 c
    refine w_iload dX1_letPropose_42 rfl ?_
    refine w_aload_n dX1_letPropose_44 rfl ?_
    obtain ⟨g4, k⟩ := k
    refine w_getI dX1_letPropose_45 f_1_25 t_8_0 g4 ?_
    refine w_ic_eq (pc' := 74) dX1_letPropose_48 rfl rfl ⟨fun c => ?_, fun c => ?_⟩
    · replace k := k.1 c
      refine w_iinc (lo' := [some (.ref v0), some (.ref v1), some (.int v2), some (.int v3), some (.ref v4), some (.int (v5 + (1 : Int32)))]) dX1_letPropose_74 rfl i1_1 rfl ?_
      refine w_goto (pc' := 30) dX1_letPropose_77 rfl rfl ?_
      exact k
    · replace k := k.2 c
      refine w_aload_n dX1_letPropose_51 rfl ?_
      refine w_getR dX1_letPropose_52 f_1_15 t_1_1 g1 ?_
      refine w_iconst dX1_letPropose_55 i1_4 ?_
      refine w_aload_n dX1_letPropose_56 rfl ?_
      refine w_getI dX1_letPropose_57 f_1_25 t_8_0 g4 ?_
      refine w_iload dX1_letPropose_60 rfl ?_
      refine w_aload dX1_letPropose_62 rfl ?_
      obtain ⟨g5, k⟩ := k
      refine w_getI dX1_letPropose_64 f_1_44 t_2_4 g5 ?_
      obtain ⟨g6, k⟩ := k
      exact w_virt (as1 := [.int (hI h 204 v4), .int v5, .int (hI h 800 v1), .int (4 : Int32), .ref (hR h 101 v0)]) (as2 := [.ref (hR h 101 v0), .int (4 : Int32), .int (hI h 800 v1), .int v5, .int (hI h 204 v4)]) (rest := []) (lo2 := [some (.ref (hR h 101 v0)), some (.int (4 : Int32)), some (.int (hI h 800 v1)), some (.int v5), some (.int (hI h 204 v4)), none]) dX1_letPropose_67 c_1_47 rfl rfl rfl (Nat.le_of_ble_eq_true rfl) (Nat.le_of_ble_eq_true rfl) rfl (Nat.le_of_ble_eq_true rfl) rfl rfl g6 g2 k
theorem bX1_letPropose_70 {d : Nat} {h : HP} {Q : Out → HP → Prop} {v0 : Nat} {v1 : Nat} {v2 : Int32} {v3 : Int32} {v4 : Nat} {v5 : Int32} {s0 : Nat} (k : (hK h s0 = 9) ∧ (WP d mX1_letPropose 30 [some (.ref v0), some (.ref v1), some (.int v2), some (.int v3), some (.ref v4), some (.int (v5 + (1 : Int32)))] [] (sI h 911 s0 v2) Q)) : WP d mX1_letPropose 70 [some (.ref v0), some (.ref v1), some (.int v2), some (.int v3), some (.ref v4), some (.int v5)] [.ref s0] h Q := by
  refine w_iload_n dX1_letPropose_70 rfl ?_
  obtain ⟨g1, k⟩ := k
  refine w_putI dX1_letPropose_71 f_1_51 t_9_11 (pf_nf n_9_11) g1 ?_
  refine w_iinc (lo' := [some (.ref v0), some (.ref v1), some (.int v2), some (.int v3), some (.ref v4), some (.int (v5 + (1 : Int32)))]) dX1_letPropose_74 rfl i1_1 rfl ?_
  refine w_goto (pc' := 30) dX1_letPropose_77 rfl rfl ?_
  exact k
theorem bX1_hear_0 {d : Nat} {h : HP} {Q : Out → HP → Prop} {v0 : Nat} {v1 : Nat} {u2 : Option Value} {u3 : Option Value} (k : (hK h v0 = 1) ∧ ((hK h v1 = 9) ∧ ((25 ≤ hK h (hR h 100 v0) ∧ hK h (hR h 100 v0) ≤ 29) ∧ ((inA h (hR h 100 v0) (hI h 902 v1) = true) ∧ ((hK h (hAR h (hR h 100 v0) ((hI h 902 v1)).toNatClampNeg) = 8) ∧ ((25 ≤ hK h (hR h 803 (hAR h (hR h 100 v0) ((hI h 902 v1)).toNatClampNeg)) ∧ hK h (hR h 803 (hAR h (hR h 100 v0) ((hI h 902 v1)).toNatClampNeg)) ≤ 29) ∧ ((inA h (hR h 803 (hAR h (hR h 100 v0) ((hI h 902 v1)).toNatClampNeg)) (hI h 911 v1) = true) ∧ ((((hI h 900 v1) = (4 : Int32)) → (1 < v0) ∧ (WP d mX1_hearPrepare 0 [some (.ref v0), some (.ref (hAR h (hR h 803 (hAR h (hR h 100 v0) ((hI h 902 v1)).toNatClampNeg)) ((hI h 911 v1)).toNatClampNeg)), some (.ref v1), none] [] h (KK d mX1_hear mX1_hearPrepare 59 [some (.ref v0), some (.ref v1), some (.ref (hAR h (hR h 100 v0) ((hI h 902 v1)).toNatClampNeg)), some (.ref (hAR h (hR h 803 (hAR h (hR h 100 v0) ((hI h 902 v1)).toNatClampNeg)) ((hI h 911 v1)).toNatClampNeg))] [] Q))) ∧ (((hI h 900 v1) = (5 : Int32)) → (1 < v0) ∧ (WP d mX1_hearPromised 0 [some (.ref v0), some (.ref (hAR h (hR h 100 v0) ((hI h 902 v1)).toNatClampNeg)), some (.ref (hAR h (hR h 803 (hAR h (hR h 100 v0) ((hI h 902 v1)).toNatClampNeg)) ((hI h 911 v1)).toNatClampNeg)), some (.ref v1)] [] h (KK d mX1_hear mX1_hearPromised 69 [some (.ref v0), some (.ref v1), some (.ref (hAR h (hR h 100 v0) ((hI h 902 v1)).toNatClampNeg)), some (.ref (hAR h (hR h 803 (hAR h (hR h 100 v0) ((hI h 902 v1)).toNatClampNeg)) ((hI h 911 v1)).toNatClampNeg))] [] Q))) ∧ (((hI h 900 v1) = (6 : Int32)) → (1 < v0) ∧ (WP d mX1_hearAccept 0 [some (.ref v0), some (.ref (hAR h (hR h 803 (hAR h (hR h 100 v0) ((hI h 902 v1)).toNatClampNeg)) ((hI h 911 v1)).toNatClampNeg)), some (.ref v1)] [] h (KK d mX1_hear mX1_hearAccept 78 [some (.ref v0), some (.ref v1), some (.ref (hAR h (hR h 100 v0) ((hI h 902 v1)).toNatClampNeg)), some (.ref (hAR h (hR h 803 (hAR h (hR h 100 v0) ((hI h 902 v1)).toNatClampNeg)) ((hI h 911 v1)).toNatClampNeg))] [] Q))) ∧ (((hI h 900 v1) = (7 : Int32)) → (1 < v0) ∧ (WP d mX1_hearAccepted 0 [some (.ref v0), some (.ref (hAR h (hR h 803 (hAR h (hR h 100 v0) ((hI h 902 v1)).toNatClampNeg)) ((hI h 911 v1)).toNatClampNeg)), some (.ref v1)] [] h (KK d mX1_hear mX1_hearAccepted 87 [some (.ref v0), some (.ref v1), some (.ref (hAR h (hR h 100 v0) ((hI h 902 v1)).toNatClampNeg)), some (.ref (hAR h (hR h 803 (hAR h (hR h 100 v0) ((hI h 902 v1)).toNatClampNeg)) ((hI h 911 v1)).toNatClampNeg))] [] Q))) ∧ ((¬ (hI h 900 v1) = (4 : Int32) ∧ ¬ (hI h 900 v1) = (5 : Int32) ∧ ¬ (hI h 900 v1) = (6 : Int32) ∧ ¬ (hI h 900 v1) = (7 : Int32)) → Q (.inl none) h))))))))) : WP (d + 1) mX1_hear 0 [some (.ref v0), some (.ref v1), u2, u3] [] h Q := by
  refine w_aload_n dX1_hear_0 rfl ?_
  obtain ⟨g1, k⟩ := k
  refine w_getR dX1_hear_1 f_1_9 t_1_0 g1 ?_
  refine w_aload_n dX1_hear_4 rfl ?_
  obtain ⟨g2, k⟩ := k
  refine w_getI dX1_hear_5 f_1_56 t_9_2 g2 ?_
  obtain ⟨g3, k⟩ := k
  obtain ⟨g4, k⟩ := k
  refine w_aaload dX1_hear_8 rfl g4 g3.1 g3.2 ?_
  refine w_astore_n (lo' := [some (.ref v0), some (.ref v1), some (.ref (hAR h (hR h 100 v0) ((hI h 902 v1)).toNatClampNeg)), u3]) dX1_hear_9 (ltQ rfl) rfl ?_
  refine w_aload_n dX1_hear_10 rfl ?_
  obtain ⟨g5, k⟩ := k
  refine w_getR dX1_hear_11 f_1_19 t_8_3 g5 ?_
  refine w_aload_n dX1_hear_14 rfl ?_
  refine w_getI dX1_hear_15 f_1_51 t_9_11 g2 ?_
  obtain ⟨g6, k⟩ := k
  obtain ⟨g7, k⟩ := k
  refine w_aaload dX1_hear_18 rfl g7 g6.1 g6.2 ?_
  refine w_astore_n (lo' := [some (.ref v0), some (.ref v1), some (.ref (hAR h (hR h 100 v0) ((hI h 902 v1)).toNatClampNeg)), some (.ref (hAR h (hR h 803 (hAR h (hR h 100 v0) ((hI h 902 v1)).toNatClampNeg)) ((hI h 911 v1)).toNatClampNeg))]) dX1_hear_19 (ltQ rfl) rfl ?_
  refine w_aload_n dX1_hear_20 rfl ?_
  refine w_getI dX1_hear_21 f_1_59 t_9_0 g2 ?_
  by_cases c4 : (hI h 900 v1) = (4 : Int32)
  · replace k := k.1 c4
    refine w_tsw (pc' := 56) dX1_hear_24 (by rw [c4]; rfl) ?_
    refine w_aload_n dX1_hear_56 rfl ?_
    refine w_aload_n dX1_hear_57 rfl ?_
    refine w_aload_n dX1_hear_58 rfl ?_
    obtain ⟨g8, k⟩ := k
    exact w_virt (as1 := [.ref v1, .ref (hAR h (hR h 803 (hAR h (hR h 100 v0) ((hI h 902 v1)).toNatClampNeg)) ((hI h 911 v1)).toNatClampNeg), .ref v0]) (as2 := [.ref v0, .ref (hAR h (hR h 803 (hAR h (hR h 100 v0) ((hI h 902 v1)).toNatClampNeg)) ((hI h 911 v1)).toNatClampNeg), .ref v1]) (rest := []) (lo2 := [some (.ref v0), some (.ref (hAR h (hR h 803 (hAR h (hR h 100 v0) ((hI h 902 v1)).toNatClampNeg)) ((hI h 911 v1)).toNatClampNeg)), some (.ref v1), none]) dX1_hear_59 c_1_62 rfl rfl rfl (Nat.le_of_ble_eq_true rfl) (Nat.le_of_ble_eq_true rfl) rfl (Nat.le_of_ble_eq_true rfl) rfl rfl g8 g1 k
  replace k := k.2
  by_cases c5 : (hI h 900 v1) = (5 : Int32)
  · replace k := k.1 c5
    refine w_tsw (pc' := 65) dX1_hear_24 (by rw [c5]; rfl) ?_
    refine w_aload_n dX1_hear_65 rfl ?_
    refine w_aload_n dX1_hear_66 rfl ?_
    refine w_aload_n dX1_hear_67 rfl ?_
    refine w_aload_n dX1_hear_68 rfl ?_
    obtain ⟨g9, k⟩ := k
    exact w_virt (as1 := [.ref v1, .ref (hAR h (hR h 803 (hAR h (hR h 100 v0) ((hI h 902 v1)).toNatClampNeg)) ((hI h 911 v1)).toNatClampNeg), .ref (hAR h (hR h 100 v0) ((hI h 902 v1)).toNatClampNeg), .ref v0]) (as2 := [.ref v0, .ref (hAR h (hR h 100 v0) ((hI h 902 v1)).toNatClampNeg), .ref (hAR h (hR h 803 (hAR h (hR h 100 v0) ((hI h 902 v1)).toNatClampNeg)) ((hI h 911 v1)).toNatClampNeg), .ref v1]) (rest := []) (lo2 := [some (.ref v0), some (.ref (hAR h (hR h 100 v0) ((hI h 902 v1)).toNatClampNeg)), some (.ref (hAR h (hR h 803 (hAR h (hR h 100 v0) ((hI h 902 v1)).toNatClampNeg)) ((hI h 911 v1)).toNatClampNeg)), some (.ref v1)]) dX1_hear_69 c_1_66 rfl rfl rfl (Nat.le_of_ble_eq_true rfl) (Nat.le_of_ble_eq_true rfl) rfl (Nat.le_of_ble_eq_true rfl) rfl rfl g9 g1 k
  replace k := k.2
  by_cases c6 : (hI h 900 v1) = (6 : Int32)
  · replace k := k.1 c6
    refine w_tsw (pc' := 75) dX1_hear_24 (by rw [c6]; rfl) ?_
    refine w_aload_n dX1_hear_75 rfl ?_
    refine w_aload_n dX1_hear_76 rfl ?_
    refine w_aload_n dX1_hear_77 rfl ?_
    obtain ⟨g10, k⟩ := k
    exact w_virt (as1 := [.ref v1, .ref (hAR h (hR h 803 (hAR h (hR h 100 v0) ((hI h 902 v1)).toNatClampNeg)) ((hI h 911 v1)).toNatClampNeg), .ref v0]) (as2 := [.ref v0, .ref (hAR h (hR h 803 (hAR h (hR h 100 v0) ((hI h 902 v1)).toNatClampNeg)) ((hI h 911 v1)).toNatClampNeg), .ref v1]) (rest := []) (lo2 := [some (.ref v0), some (.ref (hAR h (hR h 803 (hAR h (hR h 100 v0) ((hI h 902 v1)).toNatClampNeg)) ((hI h 911 v1)).toNatClampNeg)), some (.ref v1)]) dX1_hear_78 c_1_70 rfl rfl rfl (Nat.le_of_ble_eq_true rfl) (Nat.le_of_ble_eq_true rfl) rfl (Nat.le_of_ble_eq_true rfl) rfl rfl g10 g1 k
  replace k := k.2
  by_cases c7 : (hI h 900 v1) = (7 : Int32)
  · replace k := k.1 c7
    refine w_tsw (pc' := 84) dX1_hear_24 (by rw [c7]; rfl) ?_
    refine w_aload_n dX1_hear_84 rfl ?_
    refine w_aload_n dX1_hear_85 rfl ?_
    refine w_aload_n dX1_hear_86 rfl ?_
    obtain ⟨g11, k⟩ := k
    exact w_virt (as1 := [.ref v1, .ref (hAR h (hR h 803 (hAR h (hR h 100 v0) ((hI h 902 v1)).toNatClampNeg)) ((hI h 911 v1)).toNatClampNeg), .ref v0]) (as2 := [.ref v0, .ref (hAR h (hR h 803 (hAR h (hR h 100 v0) ((hI h 902 v1)).toNatClampNeg)) ((hI h 911 v1)).toNatClampNeg), .ref v1]) (rest := []) (lo2 := [some (.ref v0), some (.ref (hAR h (hR h 803 (hAR h (hR h 100 v0) ((hI h 902 v1)).toNatClampNeg)) ((hI h 911 v1)).toNatClampNeg)), some (.ref v1)]) dX1_hear_87 c_1_73 rfl rfl rfl (Nat.le_of_ble_eq_true rfl) (Nat.le_of_ble_eq_true rfl) rfl (Nat.le_of_ble_eq_true rfl) rfl rfl g11 g1 k
  replace k := k.2
  have e4 := ts_ne c4 (k := 4) rfl
  have e5 := ts_ne c5 (k := 5) rfl
  have e6 := ts_ne c6 (k := 6) rfl
  have e7 := ts_ne c7 (k := 7) rfl
  replace k := k ⟨c4, c5, c6, c7⟩
  refine w_tsw (pc' := 93) dX1_hear_24 (ts_def (x := (hI h 900 v1)) (by omega) rfl rfl) ?_
  exact w_return dX1_hear_93 rfl k
theorem bX1_hear_62 {d : Nat} {h : HP} {Q : Out → HP → Prop} {v0 : Nat} {v1 : Nat} {v2 : Nat} {v3 : Nat} (k : Q (.inl none) h) : WP d mX1_hear 62 [some (.ref v0), some (.ref v1), some (.ref v2), some (.ref v3)] [] h Q := by
  refine w_goto (pc' := 93) dX1_hear_62 rfl rfl ?_
  exact w_return dX1_hear_93 rfl k
theorem bX1_hear_72 {d : Nat} {h : HP} {Q : Out → HP → Prop} {v0 : Nat} {v1 : Nat} {v2 : Nat} {v3 : Nat} (k : Q (.inl none) h) : WP d mX1_hear 72 [some (.ref v0), some (.ref v1), some (.ref v2), some (.ref v3)] [] h Q := by
  refine w_goto (pc' := 93) dX1_hear_72 rfl rfl ?_
  exact w_return dX1_hear_93 rfl k
theorem bX1_hear_81 {d : Nat} {h : HP} {Q : Out → HP → Prop} {v0 : Nat} {v1 : Nat} {v2 : Nat} {v3 : Nat} (k : Q (.inl none) h) : WP d mX1_hear 81 [some (.ref v0), some (.ref v1), some (.ref v2), some (.ref v3)] [] h Q := by
  refine w_goto (pc' := 93) dX1_hear_81 rfl rfl ?_
  exact w_return dX1_hear_93 rfl k
theorem bX1_hear_90 {d : Nat} {h : HP} {Q : Out → HP → Prop} {v0 : Nat} {v1 : Nat} {v2 : Nat} {v3 : Nat} (k : Q (.inl none) h) : WP d mX1_hear 90 [some (.ref v0), some (.ref v1), some (.ref v2), some (.ref v3)] [] h Q := by
  refine w_goto (pc' := 93) dX1_hear_90 rfl rfl ?_
  exact w_return dX1_hear_93 rfl k
theorem bX1_hearPrepare_0 {d : Nat} {h : HP} {Q : Out → HP → Prop} {v0 : Nat} {v1 : Nat} {v2 : Nat} {u3 : Option Value} (k : (hK h v2 = 9) ∧ ((hK h v1 = 2) ∧ ((((hI h 200 v1) < (hI h 903 v2)) → (hK h v0 = 1) ∧ ((1 < (hR h 101 v0)) ∧ ((hK h (hR h 101 v0) = 10) ∧ (WP d mX10_send 0 [some (.ref (hR h 101 v0)), some (.int (5 : Int32)), some (.int (hI (sI h 200 v1 (hI h 903 v2)) 902 v2)), some (.int (hI (sI h 200 v1 (hI h 903 v2)) 901 v2)), some (.int (hI (sI h 200 v1 (hI h 903 v2)) 903 v2)), none] [] (sI h 200 v1 (hI h 903 v2)) (KK d mX1_hearPrepare mX10_send 37 [some (.ref v0), some (.ref v1), some (.ref v2), u3] [] Q))))) ∧ ((¬ ((hI h 200 v1) < (hI h 903 v2))) → Q (.inl none) h)))) : WP (d + 1) mX1_hearPrepare 0 [some (.ref v0), some (.ref v1), some (.ref v2), u3] [] h Q := by
  refine w_aload_n dX1_hearPrepare_0 rfl ?_
  obtain ⟨g1, k⟩ := k
  refine w_getI dX1_hearPrepare_1 f_1_76 t_9_3 g1 ?_
  refine w_aload_n dX1_hearPrepare_4 rfl ?_
  obtain ⟨g2, k⟩ := k
  refine w_getI dX1_hearPrepare_5 f_1_79 t_2_0 g2 ?_
  refine w_ic_gt (pc' := 12) dX1_hearPrepare_8 rfl rfl ⟨fun c => ?_, fun c => ?_⟩
  · replace k := k.1 c
    refine w_aload_n dX1_hearPrepare_12 rfl ?_
    refine w_aload_n dX1_hearPrepare_13 rfl ?_
    refine w_getI dX1_hearPrepare_14 f_1_76 t_9_3 g1 ?_
    refine w_putI dX1_hearPrepare_17 f_1_79 t_2_0 (pf_nf n_2_0) g2 ?_
    refine w_aload_n dX1_hearPrepare_20 rfl ?_
    obtain ⟨g3, k⟩ := k
    refine w_getR dX1_hearPrepare_21 f_1_15 t_1_1 g3 ?_
    refine w_iconst dX1_hearPrepare_24 i1_5 ?_
    refine w_aload_n dX1_hearPrepare_25 rfl ?_
    refine w_getI dX1_hearPrepare_26 f_1_56 t_9_2 g1 ?_
    refine w_aload_n dX1_hearPrepare_29 rfl ?_
    refine w_getI dX1_hearPrepare_30 f_1_82 t_9_1 g1 ?_
    refine w_aload_n dX1_hearPrepare_33 rfl ?_
    refine w_getI dX1_hearPrepare_34 f_1_76 t_9_3 g1 ?_
    obtain ⟨g4, k⟩ := k
    obtain ⟨g5, k⟩ := k
    exact w_virt (as1 := [.int (hI (sI h 200 v1 (hI h 903 v2)) 903 v2), .int (hI (sI h 200 v1 (hI h 903 v2)) 901 v2), .int (hI (sI h 200 v1 (hI h 903 v2)) 902 v2), .int (5 : Int32), .ref (hR h 101 v0)]) (as2 := [.ref (hR h 101 v0), .int (5 : Int32), .int (hI (sI h 200 v1 (hI h 903 v2)) 902 v2), .int (hI (sI h 200 v1 (hI h 903 v2)) 901 v2), .int (hI (sI h 200 v1 (hI h 903 v2)) 903 v2)]) (rest := []) (lo2 := [some (.ref (hR h 101 v0)), some (.int (5 : Int32)), some (.int (hI (sI h 200 v1 (hI h 903 v2)) 902 v2)), some (.int (hI (sI h 200 v1 (hI h 903 v2)) 901 v2)), some (.int (hI (sI h 200 v1 (hI h 903 v2)) 903 v2)), none]) dX1_hearPrepare_37 c_1_47 rfl rfl rfl (Nat.le_of_ble_eq_true rfl) (Nat.le_of_ble_eq_true rfl) rfl (Nat.le_of_ble_eq_true rfl) rfl rfl g4 g5 k
  · replace k := k.2 c
    exact w_return dX1_hearPrepare_11 rfl k
theorem bX1_hearPrepare_40 {d : Nat} {h : HP} {Q : Out → HP → Prop} {v0 : Nat} {v1 : Nat} {v2 : Nat} {u3 : Option Value} {s0 : Nat} (k : (hK h v2 = 9) ∧ ((hK h s0 = 9) ∧ ((hK h v1 = 2) ∧ (Q (.inl none) (sI (sI (sI h 911 s0 (hI h 911 v2)) 912 s0 (hI (sI h 911 s0 (hI h 911 v2)) 201 v1)) 913 s0 (hI (sI (sI h 911 s0 (hI h 911 v2)) 912 s0 (hI (sI h 911 s0 (hI h 911 v2)) 201 v1)) 202 v1)))))) : WP d mX1_hearPrepare 40 [some (.ref v0), some (.ref v1), some (.ref v2), u3] [.ref s0] h Q := by
  refine w_astore_n (lo' := [some (.ref v0), some (.ref v1), some (.ref v2), some (.ref s0)]) dX1_hearPrepare_40 (ltQ rfl) rfl ?_
  refine w_aload_n dX1_hearPrepare_41 rfl ?_
  refine w_aload_n dX1_hearPrepare_42 rfl ?_
  obtain ⟨g1, k⟩ := k
  refine w_getI dX1_hearPrepare_43 f_1_51 t_9_11 g1 ?_
  obtain ⟨g2, k⟩ := k
  refine w_putI dX1_hearPrepare_46 f_1_51 t_9_11 (pf_nf n_9_11) g2 ?_
  refine w_aload_n dX1_hearPrepare_49 rfl ?_
  refine w_aload_n dX1_hearPrepare_50 rfl ?_
  obtain ⟨g3, k⟩ := k
  refine w_getI dX1_hearPrepare_51 f_1_85 t_2_1 g3 ?_
  refine w_putI dX1_hearPrepare_54 f_1_88 t_9_12 (pf_nf n_9_12) g2 ?_
  refine w_aload_n dX1_hearPrepare_57 rfl ?_
  refine w_aload_n dX1_hearPrepare_58 rfl ?_
  refine w_getI dX1_hearPrepare_59 f_1_89 t_2_2 g3 ?_
  refine w_putI dX1_hearPrepare_62 f_1_92 t_9_13 (pf_nf n_9_13) g2 ?_
  exact w_return dX1_hearPrepare_65 rfl k
theorem bX1_hearPromised_0 {d : Nat} {h : HP} {Q : Out → HP → Prop} {v0 : Nat} {v1 : Nat} {v2 : Nat} {v3 : Nat} (k : (hK h v2 = 2) ∧ ((hK h v3 = 9) ∧ (((¬ (hI h 204 v2) = (hI h 903 v3)) → Q (.inl none) h) ∧ ((¬ (¬ (hI h 204 v2) = (hI h 903 v3))) → ((¬ (hI h 200 v2) = (hI h 903 v3)) → Q (.inl none) h) ∧ ((¬ (¬ (hI h 200 v2) = (hI h 903 v3))) → (((hI h 206 v2) = 0) → (1 < v2) ∧ (WP d mX2_learnTold 0 [some (.ref v2), some (.int (hI (sI h 207 v2 ((hI h 207 v2) ||| ((1 : Int32) <<< ((hI h 901 v3) &&& 31)))) 912 v3)), some (.int (hI (sI h 207 v2 ((hI h 207 v2) ||| ((1 : Int32) <<< ((hI h 901 v3) &&& 31)))) 913 v3))] [] (sI h 207 v2 ((hI h 207 v2) ||| ((1 : Int32) <<< ((hI h 901 v3) &&& 31)))) (KK d mX1_hearPromised mX2_learnTold 54 [some (.ref v0), some (.ref v1), some (.ref v2), some (.ref v3)] [] Q))) ∧ ((¬ ((hI h 206 v2) = 0)) → Q (.inl none) h)))))) : WP (d + 1) mX1_hearPromised 0 [some (.ref v0), some (.ref v1), some (.ref v2), some (.ref v3)] [] h Q := by
  refine w_aload_n dX1_hearPromised_0 rfl ?_
  obtain ⟨g1, k⟩ := k
  refine w_getI dX1_hearPromised_1 f_1_44 t_2_4 g1 ?_
  refine w_aload_n dX1_hearPromised_4 rfl ?_
  obtain ⟨g2, k⟩ := k
  refine w_getI dX1_hearPromised_5 f_1_76 t_9_3 g2 ?_
  refine w_ic_ne (pc' := 29) dX1_hearPromised_8 rfl rfl ⟨fun c => ?_, fun c => ?_⟩
  · replace k := k.1 c
    exact w_return dX1_hearPromised_29 rfl k
  · replace k := k.2 c
    refine w_aload_n dX1_hearPromised_11 rfl ?_
    refine w_getI dX1_hearPromised_12 f_1_79 t_2_0 g1 ?_
    refine w_aload_n dX1_hearPromised_15 rfl ?_
    refine w_getI dX1_hearPromised_16 f_1_76 t_9_3 g2 ?_
    refine w_ic_ne (pc' := 29) dX1_hearPromised_19 rfl rfl ⟨fun c => ?_, fun c => ?_⟩
    · replace k := k.1 c
      exact w_return dX1_hearPromised_29 rfl k
    · replace k := k.2 c
      refine w_aload_n dX1_hearPromised_22 rfl ?_
      refine w_getZ dX1_hearPromised_23 f_1_95 t_2_6 g1 ?_
      refine w_if_eq (pc' := 30) dX1_hearPromised_26 rfl rfl ⟨fun c => ?_, fun c => ?_⟩
      · replace k := k.1 c
        refine w_aload_n dX1_hearPromised_30 rfl ?_
        refine w_dup dX1_hearPromised_31 rfl ?_
        refine w_getI dX1_hearPromised_32 f_1_99 t_2_7 g1 ?_
        refine w_iconst dX1_hearPromised_35 i1_1 ?_
        refine w_aload_n dX1_hearPromised_36 rfl ?_
        refine w_getI dX1_hearPromised_37 f_1_82 t_9_1 g2 ?_
        refine w_ishl dX1_hearPromised_40 ?_
        refine w_ior dX1_hearPromised_41 ?_
        refine w_putI dX1_hearPromised_42 f_1_99 t_2_7 (pf_nf n_2_7) g1 ?_
        refine w_aload_n dX1_hearPromised_45 rfl ?_
        refine w_aload_n dX1_hearPromised_46 rfl ?_
        refine w_getI dX1_hearPromised_47 f_1_88 t_9_12 g2 ?_
        refine w_aload_n dX1_hearPromised_50 rfl ?_
        refine w_getI dX1_hearPromised_51 f_1_92 t_9_13 g2 ?_
        obtain ⟨g3, k⟩ := k
        exact w_virt (as1 := [.int (hI (sI h 207 v2 ((hI h 207 v2) ||| ((1 : Int32) <<< ((hI h 901 v3) &&& 31)))) 913 v3), .int (hI (sI h 207 v2 ((hI h 207 v2) ||| ((1 : Int32) <<< ((hI h 901 v3) &&& 31)))) 912 v3), .ref v2]) (as2 := [.ref v2, .int (hI (sI h 207 v2 ((hI h 207 v2) ||| ((1 : Int32) <<< ((hI h 901 v3) &&& 31)))) 912 v3), .int (hI (sI h 207 v2 ((hI h 207 v2) ||| ((1 : Int32) <<< ((hI h 901 v3) &&& 31)))) 913 v3)]) (rest := []) (lo2 := [some (.ref v2), some (.int (hI (sI h 207 v2 ((hI h 207 v2) ||| ((1 : Int32) <<< ((hI h 901 v3) &&& 31)))) 912 v3)), some (.int (hI (sI h 207 v2 ((hI h 207 v2) ||| ((1 : Int32) <<< ((hI h 901 v3) &&& 31)))) 913 v3))]) dX1_hearPromised_54 c_1_102 rfl rfl rfl (Nat.le_of_ble_eq_true rfl) (Nat.le_of_ble_eq_true rfl) rfl (Nat.le_of_ble_eq_true rfl) rfl rfl g3 g1 k
      · replace k := k.2 c
        exact w_return dX1_hearPromised_29 rfl k
theorem bX1_hearPromised_57 {d : Nat} {h : HP} {Q : Out → HP → Prop} {v0 : Nat} {v1 : Nat} {v2 : Nat} {v3 : Nat} (k : (hK h v0 = 1) ∧ ((hK h v2 = 2) ∧ ((1 < (hR h 101 v0)) ∧ ((hK h (hR h 101 v0) = 10) ∧ (WP d mX10_areMost 0 [some (.ref (hR h 101 v0)), some (.int (hI h 207 v2))] [] h (KK d mX1_hearPromised mX10_areMost 65 [some (.ref v0), some (.ref v1), some (.ref v2), some (.ref v3)] [] Q)))))) : WP (d + 1) mX1_hearPromised 57 [some (.ref v0), some (.ref v1), some (.ref v2), some (.ref v3)] [] h Q := by
  refine w_aload_n dX1_hearPromised_57 rfl ?_
  obtain ⟨g1, k⟩ := k
  refine w_getR dX1_hearPromised_58 f_1_15 t_1_1 g1 ?_
  refine w_aload_n dX1_hearPromised_61 rfl ?_
  obtain ⟨g2, k⟩ := k
  refine w_getI dX1_hearPromised_62 f_1_99 t_2_7 g2 ?_
  obtain ⟨g3, k⟩ := k
  obtain ⟨g4, k⟩ := k
  exact w_virt (as1 := [.int (hI h 207 v2), .ref (hR h 101 v0)]) (as2 := [.ref (hR h 101 v0), .int (hI h 207 v2)]) (rest := []) (lo2 := [some (.ref (hR h 101 v0)), some (.int (hI h 207 v2))]) dX1_hearPromised_65 c_1_106 rfl rfl rfl (Nat.le_of_ble_eq_true rfl) (Nat.le_of_ble_eq_true rfl) rfl (Nat.le_of_ble_eq_true rfl) rfl rfl g3 g4 k
theorem bX1_hearPromised_68 {d : Nat} {h : HP} {Q : Out → HP → Prop} {v0 : Nat} {v1 : Nat} {v2 : Nat} {v3 : Nat} {s0 : Int32} (k : ((s0 = 0) → WP (d + 1) mX1_hearPromised 81 [some (.ref v0), some (.ref v1), some (.ref v2), some (.ref v3)] [] h Q) ∧ ((¬ (s0 = 0)) → (hK h v3 = 9) ∧ ((1 < v0) ∧ ((hK h v0 = 1) ∧ (WP d mX1_sendAccepts 0 [some (.ref v0), some (.ref v1), some (.ref v2), some (.int (hI h 911 v3)), none, none] [] h (KK d mX1_hearPromised mX1_sendAccepts 78 [some (.ref v0), some (.ref v1), some (.ref v2), some (.ref v3)] [] Q)))))) : WP (d + 1) mX1_hearPromised 68 [some (.ref v0), some (.ref v1), some (.ref v2), some (.ref v3)] [.int s0] h Q := by
  refine w_if_eq (pc' := 81) dX1_hearPromised_68 rfl rfl ⟨fun c => ?_, fun c => ?_⟩
  · replace k := k.1 c
    exact k
  · replace k := k.2 c
    refine w_aload_n dX1_hearPromised_71 rfl ?_
    refine w_aload_n dX1_hearPromised_72 rfl ?_
    refine w_aload_n dX1_hearPromised_73 rfl ?_
    refine w_aload_n dX1_hearPromised_74 rfl ?_
    obtain ⟨g1, k⟩ := k
    refine w_getI dX1_hearPromised_75 f_1_51 t_9_11 g1 ?_
    obtain ⟨g2, k⟩ := k
    obtain ⟨g3, k⟩ := k
    exact w_virt (as1 := [.int (hI h 911 v3), .ref v2, .ref v1, .ref v0]) (as2 := [.ref v0, .ref v1, .ref v2, .int (hI h 911 v3)]) (rest := []) (lo2 := [some (.ref v0), some (.ref v1), some (.ref v2), some (.int (hI h 911 v3)), none, none]) dX1_hearPromised_78 c_1_110 rfl rfl rfl (Nat.le_of_ble_eq_true rfl) (Nat.le_of_ble_eq_true rfl) rfl (Nat.le_of_ble_eq_true rfl) rfl rfl g2 g3 k
theorem bX1_hearPromised_81 {d : Nat} {h : HP} {Q : Out → HP → Prop} {v0 : Nat} {v1 : Nat} {v2 : Nat} {v3 : Nat} (k : Q (.inl none) h) : WP d mX1_hearPromised 81 [some (.ref v0), some (.ref v1), some (.ref v2), some (.ref v3)] [] h Q := by
  exact w_return dX1_hearPromised_81 rfl k
theorem bX1_sendAccepts_0 {d : Nat} {h : HP} {Q : Out → HP → Prop} {v0 : Nat} {v1 : Nat} {v2 : Nat} {v3 : Int32} {u4 : Option Value} {u5 : Option Value} (k : (hK h v2 = 2) ∧ ((hK h v1 = 8) ∧ ((((hI (sI (sI h 206 v2 (1 : Int32)) 207 v2 ((1 : Int32) <<< ((hI (sI h 206 v2 (1 : Int32)) 800 v1) &&& 31))) 208 v2) = (-1 : Int32)) → WP d mX1_sendAccepts 40 [some (.ref v0), some (.ref v1), some (.ref v2), some (.int v3), u4, u5] [.int (hI (sI (sI h 206 v2 (1 : Int32)) 207 v2 ((1 : Int32) <<< ((hI (sI h 206 v2 (1 : Int32)) 800 v1) &&& 31))) 205 v2), .int (hI (sI (sI h 206 v2 (1 : Int32)) 207 v2 ((1 : Int32) <<< ((hI (sI h 206 v2 (1 : Int32)) 800 v1) &&& 31))) 204 v2), .ref v2] (sI (sI h 206 v2 (1 : Int32)) 207 v2 ((1 : Int32) <<< ((hI (sI h 206 v2 (1 : Int32)) 800 v1) &&& 31))) Q) ∧ ((¬ ((hI (sI (sI h 206 v2 (1 : Int32)) 207 v2 ((1 : Int32) <<< ((hI (sI h 206 v2 (1 : Int32)) 800 v1) &&& 31))) 208 v2) = (-1 : Int32))) → WP d mX1_sendAccepts 40 [some (.ref v0), some (.ref v1), some (.ref v2), some (.int v3), u4, u5] [.int (hI (sI (sI (sI h 206 v2 (1 : Int32)) 207 v2 ((1 : Int32) <<< ((hI (sI h 206 v2 (1 : Int32)) 800 v1) &&& 31))) 205 v2 (hI (sI (sI h 206 v2 (1 : Int32)) 207 v2 ((1 : Int32) <<< ((hI (sI h 206 v2 (1 : Int32)) 800 v1) &&& 31))) 209 v2)) 205 v2), .int (hI (sI (sI (sI h 206 v2 (1 : Int32)) 207 v2 ((1 : Int32) <<< ((hI (sI h 206 v2 (1 : Int32)) 800 v1) &&& 31))) 205 v2 (hI (sI (sI h 206 v2 (1 : Int32)) 207 v2 ((1 : Int32) <<< ((hI (sI h 206 v2 (1 : Int32)) 800 v1) &&& 31))) 209 v2)) 204 v2), .ref v2] (sI (sI (sI h 206 v2 (1 : Int32)) 207 v2 ((1 : Int32) <<< ((hI (sI h 206 v2 (1 : Int32)) 800 v1) &&& 31))) 205 v2 (hI (sI (sI h 206 v2 (1 : Int32)) 207 v2 ((1 : Int32) <<< ((hI (sI h 206 v2 (1 : Int32)) 800 v1) &&& 31))) 209 v2)) Q)))) : WP d mX1_sendAccepts 0 [some (.ref v0), some (.ref v1), some (.ref v2), some (.int v3), u4, u5] [] h Q := by
  refine w_aload_n dX1_sendAccepts_0 rfl ?_
  refine w_iconst dX1_sendAccepts_1 i1_1 ?_
  obtain ⟨g1, k⟩ := k
  refine w_putZ dX1_sendAccepts_2 f_1_95 t_2_6 (pf_nf n_2_6) g1 rfl ?_
  refine w_aload_n dX1_sendAccepts_5 rfl ?_
  refine w_iconst dX1_sendAccepts_6 i1_1 ?_
  refine w_aload_n dX1_sendAccepts_7 rfl ?_
  obtain ⟨g2, k⟩ := k
  refine w_getI dX1_sendAccepts_8 f_1_25 t_8_0 g2 ?_
  refine w_ishl dX1_sendAccepts_11 ?_
  refine w_putI dX1_sendAccepts_12 f_1_99 t_2_7 (pf_nf n_2_7) g1 ?_
  refine w_aload_n dX1_sendAccepts_15 rfl ?_
  refine w_getI dX1_sendAccepts_16 f_1_114 t_2_8 g1 ?_
  refine w_iconst dX1_sendAccepts_19 i1_m1 ?_
  refine w_ic_eq (pc' := 31) dX1_sendAccepts_20 rfl rfl ⟨fun c => ?_, fun c => ?_⟩
  · replace k := k.1 c
    refine w_aload_n dX1_sendAccepts_31 rfl ?_
    refine w_aload_n dX1_sendAccepts_32 rfl ?_
    refine w_getI dX1_sendAccepts_33 f_1_44 t_2_4 g1 ?_
    refine w_aload_n dX1_sendAccepts_36 rfl ?_
    refine w_getI dX1_sendAccepts_37 f_1_120 t_2_5 g1 ?_
    exact k
  · replace k := k.2 c
    refine w_aload_n dX1_sendAccepts_23 rfl ?_
    refine w_aload_n dX1_sendAccepts_24 rfl ?_
    refine w_getI dX1_sendAccepts_25 f_1_117 t_2_9 g1 ?_
    refine w_putI dX1_sendAccepts_28 f_1_120 t_2_5 (pf_nf n_2_5) g1 ?_
    refine w_aload_n dX1_sendAccepts_31 rfl ?_
    refine w_aload_n dX1_sendAccepts_32 rfl ?_
    refine w_getI dX1_sendAccepts_33 f_1_44 t_2_4 g1 ?_
    refine w_aload_n dX1_sendAccepts_36 rfl ?_
    refine w_getI dX1_sendAccepts_37 f_1_120 t_2_5 g1 ?_
    exact k
theorem bX1_sendAccepts_40 {d : Nat} {h : HP} {Q : Out → HP → Prop} {v0 : Nat} {v1 : Nat} {v2 : Nat} {v3 : Int32} {u4 : Option Value} {u5 : Option Value} {s0 : Int32} {s1 : Int32} {s2 : Nat} (k : (1 < s2) ∧ ((hK h s2 = 2) ∧ (WP d mX2_takeOn 0 [some (.ref s2), some (.int s1), some (.int s0)] [] h (KK d mX1_sendAccepts mX2_takeOn 40 [some (.ref v0), some (.ref v1), some (.ref v2), some (.int v3), u4, u5] [] Q)))) : WP (d + 1) mX1_sendAccepts 40 [some (.ref v0), some (.ref v1), some (.ref v2), some (.int v3), u4, u5] [.int s0, .int s1, .ref s2] h Q := by
  obtain ⟨g1, k⟩ := k
  obtain ⟨g2, k⟩ := k
  exact w_virt (as1 := [.int s0, .int s1, .ref s2]) (as2 := [.ref s2, .int s1, .int s0]) (rest := []) (lo2 := [some (.ref s2), some (.int s1), some (.int s0)]) dX1_sendAccepts_40 c_1_121 rfl rfl rfl (Nat.le_of_ble_eq_true rfl) (Nat.le_of_ble_eq_true rfl) rfl (Nat.le_of_ble_eq_true rfl) rfl rfl g1 g2 k
theorem bX1_sendAccepts_43 {d : Nat} {h : HP} {Q : Out → HP → Prop} {v0 : Nat} {v1 : Nat} {v2 : Nat} {v3 : Int32} {u4 : Option Value} {u5 : Option Value} (k : WP d mX1_sendAccepts 46 [some (.ref v0), some (.ref v1), some (.ref v2), some (.int v3), some (.int (0 : Int32)), u5] [] h Q) : WP d mX1_sendAccepts 43 [some (.ref v0), some (.ref v1), some (.ref v2), some (.int v3), u4, u5] [] h Q := by
  refine w_iconst dX1_sendAccepts_43 i1_0 ?_
  refine w_istore (lo' := [some (.ref v0), some (.ref v1), some (.ref v2), some (.int v3), some (.int (0 : Int32)), u5]) dX1_sendAccepts_44 (ltQ rfl) rfl ?_
  exact k
theorem bX1_sendAccepts_46 {d : Nat} {h : HP} {Q : Out → HP → Prop} {v0 : Nat} {v1 : Nat} {v2 : Nat} {v3 : Int32} {v4 : Int32} {u5 : Option Value} (k : (hK h v0 = 1) ∧ ((hK h (hR h 101 v0) = 10) ∧ ((((hI h 1000 (hR h 101 v0)) ≤ v4) → Q (.inl none) h) ∧ ((¬ ((hI h 1000 (hR h 101 v0)) ≤ v4)) → (hK h v1 = 8) ∧ (((v4 = (hI h 800 v1)) → WP (d + 1) mX1_sendAccepts 46 [some (.ref v0), some (.ref v1), some (.ref v2), some (.int v3), some (.int (v4 + (1 : Int32))), u5] [] h Q) ∧ ((¬ (v4 = (hI h 800 v1))) → (hK h v2 = 2) ∧ ((1 < (hR h 101 v0)) ∧ (WP d mX10_send 0 [some (.ref (hR h 101 v0)), some (.int (6 : Int32)), some (.int (hI h 800 v1)), some (.int v4), some (.int (hI h 204 v2)), none] [] h (KK d mX1_sendAccepts mX10_send 83 [some (.ref v0), some (.ref v1), some (.ref v2), some (.int v3), some (.int v4), u5] [] Q))))))))) : WP (d + 1) mX1_sendAccepts 46 [some (.ref v0), some (.ref v1), some (.ref v2), some (.int v3), some (.int v4), u5] [] h Q := by
  refine w_iload dX1_sendAccepts_46 rfl ?_
  refine w_aload_n dX1_sendAccepts_48 rfl ?_
  obtain ⟨g1, k⟩ := k
  refine w_getR dX1_sendAccepts_49 f_1_15 t_1_1 g1 ?_
  obtain ⟨g2, k⟩ := k
  refine w_getI dX1_sendAccepts_52 f_1_39 t_10_0 g2 ?_
  refine w_ic_ge (pc' := 109) dX1_sendAccepts_55 rfl rfl ⟨fun c => ?_, fun c => ?_⟩
  · replace k := k.1 c
    exact w_return dX1_sendAccepts_109 rfl k
  · replace k := k.2 c
    refine w_iload dX1_sendAccepts_58 rfl ?_
    refine w_aload_n dX1_sendAccepts_60 rfl ?_
    obtain ⟨g3, k⟩ := k
    refine w_getI dX1_sendAccepts_61 f_1_25 t_8_0 g3 ?_
    refine w_ic_eq (pc' := 103) dX1_sendAccepts_64 rfl rfl ⟨fun c => ?_, fun c => ?_⟩
    · replace k := k.1 c
      refine w_iinc (lo' := [some (.ref v0), some (.ref v1), some (.ref v2), some (.int v3), some (.int (v4 + (1 : Int32))), u5]) dX1_sendAccepts_103 rfl i1_1 rfl ?_
      refine w_goto (pc' := 46) dX1_sendAccepts_106 rfl rfl ?_
      exact k
    · replace k := k.2 c
      refine w_aload_n dX1_sendAccepts_67 rfl ?_
      refine w_getR dX1_sendAccepts_68 f_1_15 t_1_1 g1 ?_
      refine w_bipush dX1_sendAccepts_71 i2_6 ?_
      refine w_aload_n dX1_sendAccepts_73 rfl ?_
      refine w_getI dX1_sendAccepts_74 f_1_25 t_8_0 g3 ?_
      refine w_iload dX1_sendAccepts_77 rfl ?_
      refine w_aload_n dX1_sendAccepts_79 rfl ?_
      obtain ⟨g4, k⟩ := k
      refine w_getI dX1_sendAccepts_80 f_1_44 t_2_4 g4 ?_
      obtain ⟨g5, k⟩ := k
      exact w_virt (as1 := [.int (hI h 204 v2), .int v4, .int (hI h 800 v1), .int (6 : Int32), .ref (hR h 101 v0)]) (as2 := [.ref (hR h 101 v0), .int (6 : Int32), .int (hI h 800 v1), .int v4, .int (hI h 204 v2)]) (rest := []) (lo2 := [some (.ref (hR h 101 v0)), some (.int (6 : Int32)), some (.int (hI h 800 v1)), some (.int v4), some (.int (hI h 204 v2)), none]) dX1_sendAccepts_83 c_1_47 rfl rfl rfl (Nat.le_of_ble_eq_true rfl) (Nat.le_of_ble_eq_true rfl) rfl (Nat.le_of_ble_eq_true rfl) rfl rfl g5 g2 k
theorem bX1_sendAccepts_86 {d : Nat} {h : HP} {Q : Out → HP → Prop} {v0 : Nat} {v1 : Nat} {v2 : Nat} {v3 : Int32} {v4 : Int32} {u5 : Option Value} {s0 : Nat} (k : (hK h s0 = 9) ∧ ((hK h v2 = 2) ∧ (WP d mX1_sendAccepts 46 [some (.ref v0), some (.ref v1), some (.ref v2), some (.int v3), some (.int (v4 + (1 : Int32))), some (.ref s0)] [] (sI (sI h 911 s0 v3) 913 s0 (hI (sI h 911 s0 v3) 205 v2)) Q))) : WP d mX1_sendAccepts 86 [some (.ref v0), some (.ref v1), some (.ref v2), some (.int v3), some (.int v4), u5] [.ref s0] h Q := by
  refine w_astore (lo' := [some (.ref v0), some (.ref v1), some (.ref v2), some (.int v3), some (.int v4), some (.ref s0)]) dX1_sendAccepts_86 (ltQ rfl) rfl ?_
  refine w_aload dX1_sendAccepts_88 rfl ?_
  refine w_iload_n dX1_sendAccepts_90 rfl ?_
  obtain ⟨g1, k⟩ := k
  refine w_putI dX1_sendAccepts_91 f_1_51 t_9_11 (pf_nf n_9_11) g1 ?_
  refine w_aload dX1_sendAccepts_94 rfl ?_
  refine w_aload_n dX1_sendAccepts_96 rfl ?_
  obtain ⟨g2, k⟩ := k
  refine w_getI dX1_sendAccepts_97 f_1_120 t_2_5 g2 ?_
  refine w_putI dX1_sendAccepts_100 f_1_92 t_9_13 (pf_nf n_9_13) g1 ?_
  refine w_iinc (lo' := [some (.ref v0), some (.ref v1), some (.ref v2), some (.int v3), some (.int (v4 + (1 : Int32))), some (.ref s0)]) dX1_sendAccepts_103 rfl i1_1 rfl ?_
  refine w_goto (pc' := 46) dX1_sendAccepts_106 rfl rfl ?_
  exact k
theorem bX1_hearAccept_0 {d : Nat} {h : HP} {Q : Out → HP → Prop} {v0 : Nat} {v1 : Nat} {v2 : Nat} (k : (hK h v2 = 9) ∧ ((hK h v1 = 2) ∧ ((((hI h 200 v1) ≤ (hI h 903 v2)) → (1 < v1) ∧ (WP d mX2_takeOn 0 [some (.ref v1), some (.int (hI h 903 v2)), some (.int (hI h 913 v2))] [] h (KK d mX1_hearAccept mX2_takeOn 21 [some (.ref v0), some (.ref v1), some (.ref v2)] [] Q))) ∧ ((¬ ((hI h 200 v1) ≤ (hI h 903 v2))) → Q (.inl none) h)))) : WP (d + 1) mX1_hearAccept 0 [some (.ref v0), some (.ref v1), some (.ref v2)] [] h Q := by
  refine w_aload_n dX1_hearAccept_0 rfl ?_
  obtain ⟨g1, k⟩ := k
  refine w_getI dX1_hearAccept_1 f_1_76 t_9_3 g1 ?_
  refine w_aload_n dX1_hearAccept_4 rfl ?_
  obtain ⟨g2, k⟩ := k
  refine w_getI dX1_hearAccept_5 f_1_79 t_2_0 g2 ?_
  refine w_ic_ge (pc' := 12) dX1_hearAccept_8 rfl rfl ⟨fun c => ?_, fun c => ?_⟩
  · replace k := k.1 c
    refine w_aload_n dX1_hearAccept_12 rfl ?_
    refine w_aload_n dX1_hearAccept_13 rfl ?_
    refine w_getI dX1_hearAccept_14 f_1_76 t_9_3 g1 ?_
    refine w_aload_n dX1_hearAccept_17 rfl ?_
    refine w_getI dX1_hearAccept_18 f_1_92 t_9_13 g1 ?_
    obtain ⟨g3, k⟩ := k
    exact w_virt (as1 := [.int (hI h 913 v2), .int (hI h 903 v2), .ref v1]) (as2 := [.ref v1, .int (hI h 903 v2), .int (hI h 913 v2)]) (rest := []) (lo2 := [some (.ref v1), some (.int (hI h 903 v2)), some (.int (hI h 913 v2))]) dX1_hearAccept_21 c_1_121 rfl rfl rfl (Nat.le_of_ble_eq_true rfl) (Nat.le_of_ble_eq_true rfl) rfl (Nat.le_of_ble_eq_true rfl) rfl rfl g3 g2 k
  · replace k := k.2 c
    exact w_return dX1_hearAccept_11 rfl k
theorem bX1_hearAccept_24 {d : Nat} {h : HP} {Q : Out → HP → Prop} {v0 : Nat} {v1 : Nat} {v2 : Nat} (k : (hK h v0 = 1) ∧ ((hK h v2 = 9) ∧ ((1 < (hR h 101 v0)) ∧ ((hK h (hR h 101 v0) = 10) ∧ (WP d mX10_send 0 [some (.ref (hR h 101 v0)), some (.int (7 : Int32)), some (.int (hI h 902 v2)), some (.int (hI h 901 v2)), some (.int (hI h 903 v2)), none] [] h (KK d mX1_hearAccept mX10_send 42 [some (.ref v0), some (.ref v1), some (.ref v2)] [] Q)))))) : WP (d + 1) mX1_hearAccept 24 [some (.ref v0), some (.ref v1), some (.ref v2)] [] h Q := by
  refine w_aload_n dX1_hearAccept_24 rfl ?_
  obtain ⟨g1, k⟩ := k
  refine w_getR dX1_hearAccept_25 f_1_15 t_1_1 g1 ?_
  refine w_bipush dX1_hearAccept_28 i2_7 ?_
  refine w_aload_n dX1_hearAccept_30 rfl ?_
  obtain ⟨g2, k⟩ := k
  refine w_getI dX1_hearAccept_31 f_1_56 t_9_2 g2 ?_
  refine w_aload_n dX1_hearAccept_34 rfl ?_
  refine w_getI dX1_hearAccept_35 f_1_82 t_9_1 g2 ?_
  refine w_aload_n dX1_hearAccept_38 rfl ?_
  refine w_getI dX1_hearAccept_39 f_1_76 t_9_3 g2 ?_
  obtain ⟨g3, k⟩ := k
  obtain ⟨g4, k⟩ := k
  exact w_virt (as1 := [.int (hI h 903 v2), .int (hI h 901 v2), .int (hI h 902 v2), .int (7 : Int32), .ref (hR h 101 v0)]) (as2 := [.ref (hR h 101 v0), .int (7 : Int32), .int (hI h 902 v2), .int (hI h 901 v2), .int (hI h 903 v2)]) (rest := []) (lo2 := [some (.ref (hR h 101 v0)), some (.int (7 : Int32)), some (.int (hI h 902 v2)), some (.int (hI h 901 v2)), some (.int (hI h 903 v2)), none]) dX1_hearAccept_42 c_1_47 rfl rfl rfl (Nat.le_of_ble_eq_true rfl) (Nat.le_of_ble_eq_true rfl) rfl (Nat.le_of_ble_eq_true rfl) rfl rfl g3 g4 k
theorem bX1_hearAccept_45 {d : Nat} {h : HP} {Q : Out → HP → Prop} {v0 : Nat} {v1 : Nat} {v2 : Nat} {s0 : Nat} (k : (hK h v2 = 9) ∧ ((hK h s0 = 9) ∧ (Q (.inl none) (sI h 911 s0 (hI h 911 v2))))) : WP d mX1_hearAccept 45 [some (.ref v0), some (.ref v1), some (.ref v2)] [.ref s0] h Q := by
  refine w_aload_n dX1_hearAccept_45 rfl ?_
  obtain ⟨g1, k⟩ := k
  refine w_getI dX1_hearAccept_46 f_1_51 t_9_11 g1 ?_
  obtain ⟨g2, k⟩ := k
  refine w_putI dX1_hearAccept_49 f_1_51 t_9_11 (pf_nf n_9_11) g2 ?_
  exact w_return dX1_hearAccept_52 rfl k
theorem bX1_hearAccepted_0 {d : Nat} {h : HP} {Q : Out → HP → Prop} {v0 : Nat} {v1 : Nat} {v2 : Nat} (k : (hK h v1 = 2) ∧ ((hK h v2 = 9) ∧ (((¬ (hI h 204 v1) = (hI h 903 v2)) → Q (.inl none) h) ∧ ((¬ (¬ (hI h 204 v1) = (hI h 903 v2))) → ((¬ (hI h 206 v1) = 0) → (hK h v0 = 1) ∧ ((1 < (hR h 101 v0)) ∧ ((hK h (hR h 101 v0) = 10) ∧ (WP d mX10_areMost 0 [some (.ref (hR h 101 v0)), some (.int (hI (sI h 207 v1 ((hI h 207 v1) ||| ((1 : Int32) <<< ((hI h 901 v2) &&& 31)))) 207 v1))] [] (sI h 207 v1 ((hI h 207 v1) ||| ((1 : Int32) <<< ((hI h 901 v2) &&& 31)))) (KK d mX1_hearAccepted mX10_areMost 42 [some (.ref v0), some (.ref v1), some (.ref v2)] [] Q))))) ∧ ((¬ (¬ (hI h 206 v1) = 0)) → Q (.inl none) h))))) : WP (d + 1) mX1_hearAccepted 0 [some (.ref v0), some (.ref v1), some (.ref v2)] [] h Q := by
  refine w_aload_n dX1_hearAccepted_0 rfl ?_
  obtain ⟨g1, k⟩ := k
  refine w_getI dX1_hearAccepted_1 f_1_44 t_2_4 g1 ?_
  refine w_aload_n dX1_hearAccepted_4 rfl ?_
  obtain ⟨g2, k⟩ := k
  refine w_getI dX1_hearAccepted_5 f_1_76 t_9_3 g2 ?_
  refine w_ic_ne (pc' := 18) dX1_hearAccepted_8 rfl rfl ⟨fun c => ?_, fun c => ?_⟩
  · replace k := k.1 c
    exact w_return dX1_hearAccepted_18 rfl k
  · replace k := k.2 c
    refine w_aload_n dX1_hearAccepted_11 rfl ?_
    refine w_getZ dX1_hearAccepted_12 f_1_95 t_2_6 g1 ?_
    refine w_if_ne (pc' := 19) dX1_hearAccepted_15 rfl rfl ⟨fun c => ?_, fun c => ?_⟩
    · replace k := k.1 c
      refine w_aload_n dX1_hearAccepted_19 rfl ?_
      refine w_dup dX1_hearAccepted_20 rfl ?_
      refine w_getI dX1_hearAccepted_21 f_1_99 t_2_7 g1 ?_
      refine w_iconst dX1_hearAccepted_24 i1_1 ?_
      refine w_aload_n dX1_hearAccepted_25 rfl ?_
      refine w_getI dX1_hearAccepted_26 f_1_82 t_9_1 g2 ?_
      refine w_ishl dX1_hearAccepted_29 ?_
      refine w_ior dX1_hearAccepted_30 ?_
      refine w_putI dX1_hearAccepted_31 f_1_99 t_2_7 (pf_nf n_2_7) g1 ?_
      refine w_aload_n dX1_hearAccepted_34 rfl ?_
      obtain ⟨g3, k⟩ := k
      refine w_getR dX1_hearAccepted_35 f_1_15 t_1_1 g3 ?_
      refine w_aload_n dX1_hearAccepted_38 rfl ?_
      refine w_getI dX1_hearAccepted_39 f_1_99 t_2_7 g1 ?_
      obtain ⟨g4, k⟩ := k
      obtain ⟨g5, k⟩ := k
      exact w_virt (as1 := [.int (hI (sI h 207 v1 ((hI h 207 v1) ||| ((1 : Int32) <<< ((hI h 901 v2) &&& 31)))) 207 v1), .ref (hR h 101 v0)]) (as2 := [.ref (hR h 101 v0), .int (hI (sI h 207 v1 ((hI h 207 v1) ||| ((1 : Int32) <<< ((hI h 901 v2) &&& 31)))) 207 v1)]) (rest := []) (lo2 := [some (.ref (hR h 101 v0)), some (.int (hI (sI h 207 v1 ((hI h 207 v1) ||| ((1 : Int32) <<< ((hI h 901 v2) &&& 31)))) 207 v1))]) dX1_hearAccepted_42 c_1_106 rfl rfl rfl (Nat.le_of_ble_eq_true rfl) (Nat.le_of_ble_eq_true rfl) rfl (Nat.le_of_ble_eq_true rfl) rfl rfl g4 g5 k
    · replace k := k.2 c
      exact w_return dX1_hearAccepted_18 rfl k
theorem bX1_hearAccepted_45 {d : Nat} {h : HP} {Q : Out → HP → Prop} {v0 : Nat} {v1 : Nat} {v2 : Nat} {s0 : Int32} (k : ((s0 = 0) → Q (.inl none) h) ∧ ((¬ (s0 = 0)) → (hK h v1 = 2) ∧ (Q (.inl none) (sI h 203 v1 (hI h 205 v1))))) : WP d mX1_hearAccepted 45 [some (.ref v0), some (.ref v1), some (.ref v2)] [.int s0] h Q := by
  refine w_if_eq (pc' := 56) dX1_hearAccepted_45 rfl rfl ⟨fun c => ?_, fun c => ?_⟩
  · replace k := k.1 c
    exact w_return dX1_hearAccepted_56 rfl k
  · replace k := k.2 c
    refine w_aload_n dX1_hearAccepted_48 rfl ?_
    refine w_aload_n dX1_hearAccepted_49 rfl ?_
    obtain ⟨g1, k⟩ := k
    refine w_getI dX1_hearAccepted_50 f_1_120 t_2_5 g1 ?_
    refine w_putI dX1_hearAccepted_53 f_1_124 t_2_3 (pf_nf n_2_3) g1 ?_
    exact w_return dX1_hearAccepted_56 rfl k
theorem bX2_init_0 {d : Nat} {h : HP} {Q : Out → HP → Prop} {v0 : Nat} (k : (1 < v0) ∧ (Q (.inl none) h)) : WP d mX2_init 0 [some (.ref v0)] [] h Q := by
  refine w_aload_n dX2_init_0 rfl ?_
  obtain ⟨g1, k⟩ := k
  refine w_obj dX2_init_1 c_2_3 (Nat.le_of_ble_eq_true rfl) rfl g1 ?_
  exact w_return dX2_init_4 rfl k
theorem bX2_renew_0 {d : Nat} {h : HP} {Q : Out → HP → Prop} {v0 : Nat} (k : (hK h v0 = 2) ∧ ((1 < v0) ∧ (WP d mX2_dropProposal 0 [some (.ref v0)] [] (sI (sI (sI (sI h 200 v0 (-1 : Int32)) 201 v0 (-1 : Int32)) 202 v0 (-1 : Int32)) 203 v0 (-1 : Int32)) (KK d mX2_renew mX2_dropProposal 21 [some (.ref v0)] [] Q)))) : WP (d + 1) mX2_renew 0 [some (.ref v0)] [] h Q := by
  refine w_aload_n dX2_renew_0 rfl ?_
  refine w_iconst dX2_renew_1 i1_m1 ?_
  obtain ⟨g1, k⟩ := k
  refine w_putI dX2_renew_2 f_2_9 t_2_0 (pf_nf n_2_0) g1 ?_
  refine w_aload_n dX2_renew_5 rfl ?_
  refine w_iconst dX2_renew_6 i1_m1 ?_
  refine w_putI dX2_renew_7 f_2_15 t_2_1 (pf_nf n_2_1) g1 ?_
  refine w_aload_n dX2_renew_10 rfl ?_
  refine w_iconst dX2_renew_11 i1_m1 ?_
  refine w_putI dX2_renew_12 f_2_18 t_2_2 (pf_nf n_2_2) g1 ?_
  refine w_aload_n dX2_renew_15 rfl ?_
  refine w_iconst dX2_renew_16 i1_m1 ?_
  refine w_putI dX2_renew_17 f_2_21 t_2_3 (pf_nf n_2_3) g1 ?_
  refine w_aload_n dX2_renew_20 rfl ?_
  obtain ⟨g2, k⟩ := k
  exact w_virt (as1 := [.ref v0]) (as2 := [.ref v0]) (rest := []) (lo2 := [some (.ref v0)]) dX2_renew_21 c_2_24 rfl rfl rfl (Nat.le_of_ble_eq_true rfl) (Nat.le_of_ble_eq_true rfl) rfl (Nat.le_of_ble_eq_true rfl) rfl rfl g2 g1 k
theorem bX2_renew_24 {d : Nat} {h : HP} {Q : Out → HP → Prop} {v0 : Nat} (k : Q (.inl none) h) : WP d mX2_renew 24 [some (.ref v0)] [] h Q := by
  exact w_return dX2_renew_24 rfl k
theorem bX2_dropProposal_0 {d : Nat} {h : HP} {Q : Out → HP → Prop} {v0 : Nat} (k : (hK h v0 = 2) ∧ (Q (.inl none) (sI h 204 v0 (-1 : Int32)))) : WP d mX2_dropProposal 0 [some (.ref v0)] [] h Q := by
  refine w_aload_n dX2_dropProposal_0 rfl ?_
  refine w_iconst dX2_dropProposal_1 i1_m1 ?_
  obtain ⟨g1, k⟩ := k
  refine w_putI dX2_dropProposal_2 f_2_27 t_2_4 (pf_nf n_2_4) g1 ?_
  exact w_return dX2_dropProposal_5 rfl k
theorem bX2_nextBallot_0 {d : Nat} {h : HP} {Q : Out → HP → Prop} {v0 : Nat} {v1 : Int32} {u2 : Option Value} (k : (hK h v0 = 2) ∧ (((v1 ≤ (hI h 200 v0)) → Q (.inl (some (.int (((8 : Int32) * ((((hI h 200 v0) - v1) / (8 : Int32)) + (1 : Int32))) + v1)))) h) ∧ ((¬ (v1 ≤ (hI h 200 v0))) → Q (.inl (some (.int (((8 : Int32) * (0 : Int32)) + v1)))) h))) : WP d mX2_nextBallot 0 [some (.ref v0), some (.int v1), u2] [] h Q := by
  refine w_aload_n dX2_nextBallot_0 rfl ?_
  obtain ⟨g1, k⟩ := k
  refine w_getI dX2_nextBallot_1 f_2_9 t_2_0 g1 ?_
  refine w_iload_n dX2_nextBallot_4 rfl ?_
  refine w_ic_ge (pc' := 12) dX2_nextBallot_5 rfl rfl ⟨fun c => ?_, fun c => ?_⟩
  · replace k := k.1 c
    refine w_aload_n dX2_nextBallot_12 rfl ?_
    refine w_getI dX2_nextBallot_13 f_2_9 t_2_0 g1 ?_
    refine w_iload_n dX2_nextBallot_16 rfl ?_
    refine w_isub dX2_nextBallot_17 ?_
    refine w_bipush dX2_nextBallot_18 i2_8 ?_
    refine w_idiv dX2_nextBallot_20 (by decide) ?_
    refine w_iconst dX2_nextBallot_21 i1_1 ?_
    refine w_iadd dX2_nextBallot_22 ?_
    refine w_istore_n (lo' := [some (.ref v0), some (.int v1), some (.int ((((hI h 200 v0) - v1) / (8 : Int32)) + (1 : Int32)))]) dX2_nextBallot_23 (ltQ rfl) rfl ?_
    refine w_bipush dX2_nextBallot_24 i2_8 ?_
    refine w_iload_n dX2_nextBallot_26 rfl ?_
    refine w_imul dX2_nextBallot_27 ?_
    refine w_iload_n dX2_nextBallot_28 rfl ?_
    refine w_iadd dX2_nextBallot_29 ?_
    exact w_ireturn dX2_nextBallot_30 rfl k
  · replace k := k.2 c
    refine w_iconst dX2_nextBallot_8 i1_0 ?_
    refine w_goto (pc' := 23) dX2_nextBallot_9 rfl rfl ?_
    refine w_istore_n (lo' := [some (.ref v0), some (.int v1), some (.int (0 : Int32))]) dX2_nextBallot_23 (ltQ rfl) rfl ?_
    refine w_bipush dX2_nextBallot_24 i2_8 ?_
    refine w_iload_n dX2_nextBallot_26 rfl ?_
    refine w_imul dX2_nextBallot_27 ?_
    refine w_iload_n dX2_nextBallot_28 rfl ?_
    refine w_iadd dX2_nextBallot_29 ?_
    exact w_ireturn dX2_nextBallot_30 rfl k
theorem bX2_startProposal_0 {d : Nat} {h : HP} {Q : Out → HP → Prop} {v0 : Nat} {v1 : Int32} {v2 : Int32} {v3 : Int32} (k : (hK h v0 = 2) ∧ (WP d mX2_startProposal 40 [some (.ref v0), some (.int v1), some (.int v2), some (.int v3)] [.int (hI (sI (sI (sI (sI (sI (sI h 200 v0 v1) 204 v0 v1) 205 v0 v2) 206 v0 (0 : Int32)) 207 v0 ((1 : Int32) <<< (v3 &&& 31))) 208 v0 (hI (sI (sI (sI (sI (sI h 200 v0 v1) 204 v0 v1) 205 v0 v2) 206 v0 (0 : Int32)) 207 v0 ((1 : Int32) <<< (v3 &&& 31))) 201 v0)) 202 v0), .ref v0] (sI (sI (sI (sI (sI (sI h 200 v0 v1) 204 v0 v1) 205 v0 v2) 206 v0 (0 : Int32)) 207 v0 ((1 : Int32) <<< (v3 &&& 31))) 208 v0 (hI (sI (sI (sI (sI (sI h 200 v0 v1) 204 v0 v1) 205 v0 v2) 206 v0 (0 : Int32)) 207 v0 ((1 : Int32) <<< (v3 &&& 31))) 201 v0)) Q)) : WP d mX2_startProposal 0 [some (.ref v0), some (.int v1), some (.int v2), some (.int v3)] [] h Q := by
  refine w_aload_n dX2_startProposal_0 rfl ?_
  refine w_iload_n dX2_startProposal_1 rfl ?_
  obtain ⟨g1, k⟩ := k
  refine w_putI dX2_startProposal_2 f_2_9 t_2_0 (pf_nf n_2_0) g1 ?_
  refine w_aload_n dX2_startProposal_5 rfl ?_
  refine w_iload_n dX2_startProposal_6 rfl ?_
  refine w_putI dX2_startProposal_7 f_2_27 t_2_4 (pf_nf n_2_4) g1 ?_
  refine w_aload_n dX2_startProposal_10 rfl ?_
  refine w_iload_n dX2_startProposal_11 rfl ?_
  refine w_putI dX2_startProposal_12 f_2_30 t_2_5 (pf_nf n_2_5) g1 ?_
  refine w_aload_n dX2_startProposal_15 rfl ?_
  refine w_iconst dX2_startProposal_16 i1_0 ?_
  refine w_putZ dX2_startProposal_17 f_2_33 t_2_6 (pf_nf n_2_6) g1 rfl ?_
  refine w_aload_n dX2_startProposal_20 rfl ?_
  refine w_iconst dX2_startProposal_21 i1_1 ?_
  refine w_iload_n dX2_startProposal_22 rfl ?_
  refine w_ishl dX2_startProposal_23 ?_
  refine w_putI dX2_startProposal_24 f_2_37 t_2_7 (pf_nf n_2_7) g1 ?_
  refine w_aload_n dX2_startProposal_27 rfl ?_
  refine w_aload_n dX2_startProposal_28 rfl ?_
  refine w_getI dX2_startProposal_29 f_2_15 t_2_1 g1 ?_
  refine w_putI dX2_startProposal_32 f_2_40 t_2_8 (pf_nf n_2_8) g1 ?_
  refine w_aload_n dX2_startProposal_35 rfl ?_
  refine w_aload_n dX2_startProposal_36 rfl ?_
  refine w_getI dX2_startProposal_37 f_2_18 t_2_2 g1 ?_
  exact k
theorem bX2_startProposal_40 {d : Nat} {h : HP} {Q : Out → HP → Prop} {v0 : Nat} {v1 : Int32} {v2 : Int32} {v3 : Int32} {s0 : Int32} {s1 : Nat} (k : (hK h s1 = 2) ∧ (Q (.inl none) (sI h 209 s1 s0))) : WP d mX2_startProposal 40 [some (.ref v0), some (.int v1), some (.int v2), some (.int v3)] [.int s0, .ref s1] h Q := by
  obtain ⟨g1, k⟩ := k
  refine w_putI dX2_startProposal_40 f_2_43 t_2_9 (pf_nf n_2_9) g1 ?_
  exact w_return dX2_startProposal_43 rfl k
theorem bX2_learnTold_0 {d : Nat} {h : HP} {Q : Out → HP → Prop} {v0 : Nat} {v1 : Int32} {v2 : Int32} (k : (hK h v0 = 2) ∧ (((v1 ≤ (hI h 208 v0)) → Q (.inl none) h) ∧ ((¬ (v1 ≤ (hI h 208 v0))) → Q (.inl none) (sI (sI h 208 v0 v1) 209 v0 v2)))) : WP d mX2_learnTold 0 [some (.ref v0), some (.int v1), some (.int v2)] [] h Q := by
  refine w_iload_n dX2_learnTold_0 rfl ?_
  refine w_aload_n dX2_learnTold_1 rfl ?_
  obtain ⟨g1, k⟩ := k
  refine w_getI dX2_learnTold_2 f_2_40 t_2_8 g1 ?_
  refine w_ic_le (pc' := 18) dX2_learnTold_5 rfl rfl ⟨fun c => ?_, fun c => ?_⟩
  · replace k := k.1 c
    exact w_return dX2_learnTold_18 rfl k
  · replace k := k.2 c
    refine w_aload_n dX2_learnTold_8 rfl ?_
    refine w_iload_n dX2_learnTold_9 rfl ?_
    refine w_putI dX2_learnTold_10 f_2_40 t_2_8 (pf_nf n_2_8) g1 ?_
    refine w_aload_n dX2_learnTold_13 rfl ?_
    refine w_iload_n dX2_learnTold_14 rfl ?_
    refine w_putI dX2_learnTold_15 f_2_43 t_2_9 (pf_nf n_2_9) g1 ?_
    exact w_return dX2_learnTold_18 rfl k
theorem bX2_takeOn_0 {d : Nat} {h : HP} {Q : Out → HP → Prop} {v0 : Nat} {v1 : Int32} {v2 : Int32} (k : (hK h v0 = 2) ∧ (Q (.inl none) (sI (sI (sI h 200 v0 v1) 201 v0 v1) 202 v0 v2))) : WP d mX2_takeOn 0 [some (.ref v0), some (.int v1), some (.int v2)] [] h Q := by
  refine w_aload_n dX2_takeOn_0 rfl ?_
  refine w_iload_n dX2_takeOn_1 rfl ?_
  obtain ⟨g1, k⟩ := k
  refine w_putI dX2_takeOn_2 f_2_9 t_2_0 (pf_nf n_2_0) g1 ?_
  refine w_aload_n dX2_takeOn_5 rfl ?_
  refine w_iload_n dX2_takeOn_6 rfl ?_
  refine w_putI dX2_takeOn_7 f_2_15 t_2_1 (pf_nf n_2_1) g1 ?_
  refine w_aload_n dX2_takeOn_10 rfl ?_
  refine w_iload_n dX2_takeOn_11 rfl ?_
  refine w_putI dX2_takeOn_12 f_2_18 t_2_2 (pf_nf n_2_2) g1 ?_
  exact w_return dX2_takeOn_15 rfl k
theorem bX3_init_0 {d : Nat} {h : HP} {Q : Out → HP → Prop} {v0 : Nat} {v1 : Int32} {v2 : Int32} {v3 : Int32} {v4 : Int32} (k : (1 < v0) ∧ ((hK h v0 = 3) ∧ (Q (.inl none) (sI (sI (sI (sI h 300 v0 v1) 301 v0 v2) 302 v0 v3) 303 v0 v4)))) : WP d mX3_init 0 [some (.ref v0), some (.int v1), some (.int v2), some (.int v3), some (.int v4)] [] h Q := by
  refine w_aload_n dX3_init_0 rfl ?_
  obtain ⟨g1, k⟩ := k
  refine w_obj dX3_init_1 c_3_1 (Nat.le_of_ble_eq_true rfl) rfl g1 ?_
  refine w_aload_n dX3_init_4 rfl ?_
  refine w_iload_n dX3_init_5 rfl ?_
  obtain ⟨g2, k⟩ := k
  refine w_putI dX3_init_6 f_3_7 t_3_0 (pf_in rfl rfl) g2 ?_
  refine w_aload_n dX3_init_9 rfl ?_
  refine w_iload_n dX3_init_10 rfl ?_
  refine w_putI dX3_init_11 f_3_13 t_3_1 (pf_in rfl rfl) g2 ?_
  refine w_aload_n dX3_init_14 rfl ?_
  refine w_iload_n dX3_init_15 rfl ?_
  refine w_putI dX3_init_16 f_3_16 t_3_2 (pf_in rfl rfl) g2 ?_
  refine w_aload_n dX3_init_19 rfl ?_
  refine w_iload dX3_init_20 rfl ?_
  refine w_putI dX3_init_22 f_3_19 t_3_3 (pf_in rfl rfl) g2 ?_
  exact w_return dX3_init_25 rfl k
theorem bX3_isLike_0 {d : Nat} {h : HP} {Q : Out → HP → Prop} {v0 : Nat} {v1 : Nat} (k : (hK h v0 = 3) ∧ ((hK h v1 = 3) ∧ (((¬ (hI h 300 v0) = (hI h 300 v1)) → Q (.inl (some (.int (0 : Int32)))) h) ∧ ((¬ (¬ (hI h 300 v0) = (hI h 300 v1))) → ((¬ (hI h 301 v0) = (hI h 301 v1)) → Q (.inl (some (.int (0 : Int32)))) h) ∧ ((¬ (¬ (hI h 301 v0) = (hI h 301 v1))) → ((¬ (hI h 302 v0) = (hI h 302 v1)) → Q (.inl (some (.int (0 : Int32)))) h) ∧ ((¬ (¬ (hI h 302 v0) = (hI h 302 v1))) → ((¬ (hI h 303 v0) = (hI h 303 v1)) → Q (.inl (some (.int (0 : Int32)))) h) ∧ ((¬ (¬ (hI h 303 v0) = (hI h 303 v1))) → Q (.inl (some (.int (1 : Int32)))) h))))))) : WP d mX3_isLike 0 [some (.ref v0), some (.ref v1)] [] h Q := by
  refine w_aload_n dX3_isLike_0 rfl ?_
  obtain ⟨g1, k⟩ := k
  refine w_getI dX3_isLike_1 f_3_7 t_3_0 g1 ?_
  refine w_aload_n dX3_isLike_4 rfl ?_
  obtain ⟨g2, k⟩ := k
  refine w_getI dX3_isLike_5 f_3_7 t_3_0 g2 ?_
  refine w_ic_ne (pc' := 48) dX3_isLike_8 rfl rfl ⟨fun c => ?_, fun c => ?_⟩
  · replace k := k.1 c
    refine w_iconst dX3_isLike_48 i1_0 ?_
    exact w_ireturn dX3_isLike_49 rfl k
  · replace k := k.2 c
    refine w_aload_n dX3_isLike_11 rfl ?_
    refine w_getI dX3_isLike_12 f_3_13 t_3_1 g1 ?_
    refine w_aload_n dX3_isLike_15 rfl ?_
    refine w_getI dX3_isLike_16 f_3_13 t_3_1 g2 ?_
    refine w_ic_ne (pc' := 48) dX3_isLike_19 rfl rfl ⟨fun c => ?_, fun c => ?_⟩
    · replace k := k.1 c
      refine w_iconst dX3_isLike_48 i1_0 ?_
      exact w_ireturn dX3_isLike_49 rfl k
    · replace k := k.2 c
      refine w_aload_n dX3_isLike_22 rfl ?_
      refine w_getI dX3_isLike_23 f_3_16 t_3_2 g1 ?_
      refine w_aload_n dX3_isLike_26 rfl ?_
      refine w_getI dX3_isLike_27 f_3_16 t_3_2 g2 ?_
      refine w_ic_ne (pc' := 48) dX3_isLike_30 rfl rfl ⟨fun c => ?_, fun c => ?_⟩
      · replace k := k.1 c
        refine w_iconst dX3_isLike_48 i1_0 ?_
        exact w_ireturn dX3_isLike_49 rfl k
      · replace k := k.2 c
        refine w_aload_n dX3_isLike_33 rfl ?_
        refine w_getI dX3_isLike_34 f_3_19 t_3_3 g1 ?_
        refine w_aload_n dX3_isLike_37 rfl ?_
        refine w_getI dX3_isLike_38 f_3_19 t_3_3 g2 ?_
        refine w_ic_ne (pc' := 48) dX3_isLike_41 rfl rfl ⟨fun c => ?_, fun c => ?_⟩
        · replace k := k.1 c
          refine w_iconst dX3_isLike_48 i1_0 ?_
          exact w_ireturn dX3_isLike_49 rfl k
        · replace k := k.2 c
          refine w_iconst dX3_isLike_44 i1_1 ?_
          refine w_goto (pc' := 49) dX3_isLike_45 rfl rfl ?_
          exact w_ireturn dX3_isLike_49 rfl k
theorem bX3_outdoes_0 {d : Nat} {h : HP} {Q : Out → HP → Prop} {v0 : Nat} {v1 : Int32} {v2 : Int32} (k : (hK h v0 = 3) ∧ (((¬ (hI h 301 v0) = v1) → Q (.inl (some (.int (0 : Int32)))) h) ∧ ((¬ (¬ (hI h 301 v0) = v1)) → (((hI h 302 v0) < v2) → Q (.inl (some (.int (0 : Int32)))) h) ∧ ((¬ ((hI h 302 v0) < v2)) → Q (.inl (some (.int (1 : Int32)))) h)))) : WP d mX3_outdoes 0 [some (.ref v0), some (.int v1), some (.int v2)] [] h Q := by
  refine w_aload_n dX3_outdoes_0 rfl ?_
  obtain ⟨g1, k⟩ := k
  refine w_getI dX3_outdoes_1 f_3_13 t_3_1 g1 ?_
  refine w_iload_n dX3_outdoes_4 rfl ?_
  refine w_ic_ne (pc' := 20) dX3_outdoes_5 rfl rfl ⟨fun c => ?_, fun c => ?_⟩
  · replace k := k.1 c
    refine w_iconst dX3_outdoes_20 i1_0 ?_
    exact w_ireturn dX3_outdoes_21 rfl k
  · replace k := k.2 c
    refine w_aload_n dX3_outdoes_8 rfl ?_
    refine w_getI dX3_outdoes_9 f_3_16 t_3_2 g1 ?_
    refine w_iload_n dX3_outdoes_12 rfl ?_
    refine w_ic_lt (pc' := 20) dX3_outdoes_13 rfl rfl ⟨fun c => ?_, fun c => ?_⟩
    · replace k := k.1 c
      refine w_iconst dX3_outdoes_20 i1_0 ?_
      exact w_ireturn dX3_outdoes_21 rfl k
    · replace k := k.2 c
      refine w_iconst dX3_outdoes_16 i1_1 ?_
      refine w_goto (pc' := 21) dX3_outdoes_17 rfl rfl ?_
      exact w_ireturn dX3_outdoes_21 rfl k
theorem bX4_init_0 {d : Nat} {h : HP} {Q : Out → HP → Prop} {v0 : Nat} {u1 : Option Value} (k : (1 < v0) ∧ ((hK (nw h 29 14 14) v0 = 4) ∧ ((hK (nw (sR (nw h 29 14 14) 400 v0 (hN h)) 29 14 14) v0 = 4) ∧ (WP d mX4_init 24 [some (.ref v0), some (.int (0 : Int32))] [] (sR (nw (sR (nw h 29 14 14) 400 v0 (hN h)) 29 14 14) 401 v0 (hN (sR (nw h 29 14 14) 400 v0 (hN h)))) Q)))) : WP d mX4_init 0 [some (.ref v0), u1] [] h Q := by
  refine w_aload_n dX4_init_0 rfl ?_
  obtain ⟨g1, k⟩ := k
  refine w_obj dX4_init_1 c_4_3 (Nat.le_of_ble_eq_true rfl) rfl g1 ?_
  refine w_aload_n dX4_init_4 rfl ?_
  refine w_bipush dX4_init_5 i2_14 ?_
  refine w_anew (m := 14) dX4_init_7 (by decide) (by decide) (by decide) ar_4_9 ?_
  obtain ⟨g2, k⟩ := k
  refine w_putR dX4_init_10 f_4_11 t_4_0 (pf_in rfl rfl) g2 ?_
  refine w_aload_n dX4_init_13 rfl ?_
  refine w_bipush dX4_init_14 i2_14 ?_
  refine w_anew (m := 14) dX4_init_16 (by decide) (by decide) (by decide) ar_4_9 ?_
  obtain ⟨g3, k⟩ := k
  refine w_putR dX4_init_19 f_4_17 t_4_1 (pf_in rfl rfl) g3 ?_
  refine w_iconst dX4_init_22 i1_0 ?_
  refine w_istore_n (lo' := [some (.ref v0), some (.int (0 : Int32))]) dX4_init_23 (ltQ rfl) rfl ?_
  exact k
theorem bX4_init_24 {d : Nat} {h : HP} {Q : Out → HP → Prop} {v0 : Nat} {v1 : Int32} (k : (((14 : Int32) ≤ v1) → Q (.inl none) h) ∧ ((¬ ((14 : Int32) ≤ v1)) → (hK h v0 = 4) ∧ ((1 < (hN h)) ∧ (WP d mX0_init 0 [some (.ref (hN h))] [] (nw h 0 0 6) (KK d mX4_init mX0_init 39 [some (.ref v0), some (.int v1)] [.ref (hN h), .int v1, .ref (hR h 400 v0)] Q))))) : WP (d + 1) mX4_init 24 [some (.ref v0), some (.int v1)] [] h Q := by
  refine w_iload_n dX4_init_24 rfl ?_
  refine w_bipush dX4_init_25 i2_14 ?_
  refine w_ic_ge (pc' := 49) dX4_init_27 rfl rfl ⟨fun c => ?_, fun c => ?_⟩
  · replace k := k.1 c
    exact w_return dX4_init_49 rfl k
  · replace k := k.2 c
    refine w_aload_n dX4_init_30 rfl ?_
    obtain ⟨g1, k⟩ := k
    refine w_getR dX4_init_31 f_4_11 t_4_0 g1 ?_
    refine w_iload_n dX4_init_34 rfl ?_
    refine w_new dX4_init_35 nr_4_9 ?_
    refine w_dup dX4_init_38 rfl ?_
    obtain ⟨g2, k⟩ := k
    exact w_nest (as1 := [.ref (hN h)]) (as2 := [.ref (hN h)]) (rest := [.ref (hN h), .int v1, .ref (hR h 400 v0)]) (lo2 := [some (.ref (hN h))]) dX4_init_39 c_4_20 rfl rfl rfl (Nat.le_of_ble_eq_true rfl) (Nat.le_of_ble_eq_true rfl) rfl (Nat.le_of_ble_eq_true rfl) rfl rfl g2 k
theorem bX4_init_42 {d : Nat} {h : HP} {Q : Out → HP → Prop} {v0 : Nat} {v1 : Int32} {s0 : Nat} {s1 : Int32} {s2 : Nat} (k : (25 ≤ hK h s2 ∧ hK h s2 ≤ 29) ∧ ((inA h s2 s1 = true) ∧ ((1 < s0 ∧ hK h s0 = acl (hK h s2 - 25)) ∧ (WP d mX4_init 24 [some (.ref v0), some (.int (v1 + (1 : Int32)))] [] (sAR h s2 (s1).toNatClampNeg s0) Q)))) : WP d mX4_init 42 [some (.ref v0), some (.int v1)] [.ref s0, .int s1, .ref s2] h Q := by
  obtain ⟨g1, k⟩ := k
  obtain ⟨g2, k⟩ := k
  obtain ⟨g3, k⟩ := k
  refine w_aastore dX4_init_42 rfl g2 g1.1 g1.2 g3.1 g3.2 ?_
  refine w_iinc (lo' := [some (.ref v0), some (.int (v1 + (1 : Int32)))]) dX4_init_43 rfl i1_1 rfl ?_
  refine w_goto (pc' := 24) dX4_init_46 rfl rfl ?_
  exact k
theorem bX4_renew_0 {d : Nat} {h : HP} {Q : Out → HP → Prop} {v0 : Nat} (k : (hK h v0 = 4) ∧ (Q (.inl none) (sI (sI (sI h 402 v0 (0 : Int32)) 404 v0 (0 : Int32)) 403 v0 (0 : Int32)))) : WP d mX4_renew 0 [some (.ref v0)] [] h Q := by
  refine w_aload_n dX4_renew_0 rfl ?_
  refine w_iconst dX4_renew_1 i1_0 ?_
  obtain ⟨g1, k⟩ := k
  refine w_putI dX4_renew_2 f_4_21 t_4_2 (pf_nf n_4_2) g1 ?_
  refine w_aload_n dX4_renew_5 rfl ?_
  refine w_iconst dX4_renew_6 i1_0 ?_
  refine w_putI dX4_renew_7 f_4_25 t_4_4 (pf_nf n_4_4) g1 ?_
  refine w_aload_n dX4_renew_10 rfl ?_
  refine w_iconst dX4_renew_11 i1_0 ?_
  refine w_putI dX4_renew_12 f_4_28 t_4_3 (pf_nf n_4_3) g1 ?_
  exact w_return dX4_renew_15 rfl k
theorem bX4_goOn_0 {d : Nat} {h : HP} {Q : Out → HP → Prop} {v0 : Nat} (k : (hK h v0 = 4) ∧ (Q (.inl none) (sI h 403 v0 ((hI h 403 v0) + (1 : Int32))))) : WP d mX4_goOn 0 [some (.ref v0)] [] h Q := by
  refine w_aload_n dX4_goOn_0 rfl ?_
  refine w_dup dX4_goOn_1 rfl ?_
  obtain ⟨g1, k⟩ := k
  refine w_getI dX4_goOn_2 f_4_28 t_4_3 g1 ?_
  refine w_iconst dX4_goOn_5 i1_1 ?_
  refine w_iadd dX4_goOn_6 ?_
  refine w_putI dX4_goOn_7 f_4_28 t_4_3 (pf_nf n_4_3) g1 ?_
  exact w_return dX4_goOn_10 rfl k
theorem bX4_isFull_0 {d : Nat} {h : HP} {Q : Out → HP → Prop} {v0 : Nat} (k : (hK h v0 = 4) ∧ ((((hI h 402 v0) < (14 : Int32)) → Q (.inl (some (.int (0 : Int32)))) h) ∧ ((¬ ((hI h 402 v0) < (14 : Int32))) → Q (.inl (some (.int (1 : Int32)))) h))) : WP d mX4_isFull 0 [some (.ref v0)] [] h Q := by
  refine w_aload_n dX4_isFull_0 rfl ?_
  obtain ⟨g1, k⟩ := k
  refine w_getI dX4_isFull_1 f_4_21 t_4_2 g1 ?_
  refine w_bipush dX4_isFull_4 i2_14 ?_
  refine w_ic_lt (pc' := 13) dX4_isFull_6 rfl rfl ⟨fun c => ?_, fun c => ?_⟩
  · replace k := k.1 c
    refine w_iconst dX4_isFull_13 i1_0 ?_
    exact w_ireturn dX4_isFull_14 rfl k
  · replace k := k.2 c
    refine w_iconst dX4_isFull_9 i1_1 ?_
    refine w_goto (pc' := 14) dX4_isFull_10 rfl rfl ?_
    exact w_ireturn dX4_isFull_14 rfl k
theorem bX4_at_0 {d : Nat} {h : HP} {Q : Out → HP → Prop} {v0 : Nat} {v1 : Int32} (k : ((v1 < 0) → Q (.inl (some (.ref 0))) h) ∧ ((¬ (v1 < 0)) → (hK h v0 = 4) ∧ ((((hI h 402 v0) ≤ v1) → Q (.inl (some (.ref 0))) h) ∧ ((¬ ((hI h 402 v0) ≤ v1)) → (25 ≤ hK h (hR h 400 v0) ∧ hK h (hR h 400 v0) ≤ 29) ∧ ((inA h (hR h 400 v0) v1 = true) ∧ (Q (.inl (some (.ref (hAR h (hR h 400 v0) (v1).toNatClampNeg)))) h)))))) : WP d mX4_at 0 [some (.ref v0), some (.int v1)] [] h Q := by
  refine w_iload_n dX4_at_0 rfl ?_
  refine w_if_lt (pc' := 21) dX4_at_1 rfl rfl ⟨fun c => ?_, fun c => ?_⟩
  · replace k := k.1 c
    refine w_null dX4_at_21 ?_
    exact w_areturn dX4_at_22 rfl k
  · replace k := k.2 c
    refine w_iload_n dX4_at_4 rfl ?_
    refine w_aload_n dX4_at_5 rfl ?_
    obtain ⟨g1, k⟩ := k
    refine w_getI dX4_at_6 f_4_21 t_4_2 g1 ?_
    refine w_ic_ge (pc' := 21) dX4_at_9 rfl rfl ⟨fun c => ?_, fun c => ?_⟩
    · replace k := k.1 c
      refine w_null dX4_at_21 ?_
      exact w_areturn dX4_at_22 rfl k
    · replace k := k.2 c
      refine w_aload_n dX4_at_12 rfl ?_
      refine w_getR dX4_at_13 f_4_11 t_4_0 g1 ?_
      refine w_iload_n dX4_at_16 rfl ?_
      obtain ⟨g2, k⟩ := k
      obtain ⟨g3, k⟩ := k
      refine w_aaload dX4_at_17 rfl g3 g2.1 g2.2 ?_
      refine w_goto (pc' := 22) dX4_at_18 rfl rfl ?_
      exact w_areturn dX4_at_22 rfl k
theorem bX4_findWrite_0 {d : Nat} {h : HP} {Q : Out → HP → Prop} {v0 : Nat} {v1 : Int32} {v2 : Int32} {u3 : Option Value} (k : WP d mX4_findWrite 2 [some (.ref v0), some (.int v1), some (.int v2), some (.int (0 : Int32))] [] h Q) : WP d mX4_findWrite 0 [some (.ref v0), some (.int v1), some (.int v2), u3] [] h Q := by
  refine w_iconst dX4_findWrite_0 i1_0 ?_
  refine w_istore_n (lo' := [some (.ref v0), some (.int v1), some (.int v2), some (.int (0 : Int32))]) dX4_findWrite_1 (ltQ rfl) rfl ?_
  exact k
theorem bX4_findWrite_2 {d : Nat} {h : HP} {Q : Out → HP → Prop} {v0 : Nat} {v1 : Int32} {v2 : Int32} {v3 : Int32} (k : (hK h v0 = 4) ∧ ((((hI h 402 v0) ≤ v3) → Q (.inl (some (.ref 0))) h) ∧ ((¬ ((hI h 402 v0) ≤ v3)) → (25 ≤ hK h (hR h 400 v0) ∧ hK h (hR h 400 v0) ≤ 29) ∧ ((inA h (hR h 400 v0) v3 = true) ∧ ((hK h (hAR h (hR h 400 v0) (v3).toNatClampNeg) = 0) ∧ ((((hI h 0 (hAR h (hR h 400 v0) (v3).toNatClampNeg)) = 0) → WP d mX4_findWrite 2 [some (.ref v0), some (.int v1), some (.int v2), some (.int (v3 + (1 : Int32)))] [] h Q) ∧ ((¬ ((hI h 0 (hAR h (hR h 400 v0) (v3).toNatClampNeg)) = 0)) → ((¬ (hI h 1 (hAR h (hR h 400 v0) (v3).toNatClampNeg)) = v1) → WP d mX4_findWrite 2 [some (.ref v0), some (.int v1), some (.int v2), some (.int (v3 + (1 : Int32)))] [] h Q) ∧ ((¬ (¬ (hI h 1 (hAR h (hR h 400 v0) (v3).toNatClampNeg)) = v1)) → ((¬ (hI h 2 (hAR h (hR h 400 v0) (v3).toNatClampNeg)) = v2) → WP d mX4_findWrite 2 [some (.ref v0), some (.int v1), some (.int v2), some (.int (v3 + (1 : Int32)))] [] h Q) ∧ ((¬ (¬ (hI h 2 (hAR h (hR h 400 v0) (v3).toNatClampNeg)) = v2)) → Q (.inl (some (.ref (hAR h (hR h 400 v0) (v3).toNatClampNeg)))) h))))))))) : WP d mX4_findWrite 2 [some (.ref v0), some (.int v1), some (.int v2), some (.int v3)] [] h Q := by
  refine w_iload_n dX4_findWrite_2 rfl ?_
  refine w_aload_n dX4_findWrite_3 rfl ?_
  obtain ⟨g1, k⟩ := k
  refine w_getI dX4_findWrite_4 f_4_21 t_4_2 g1 ?_
  refine w_ic_ge (pc' := 61) dX4_findWrite_7 rfl rfl ⟨fun c => ?_, fun c => ?_⟩
  · replace k := k.1 c
    refine w_null dX4_findWrite_61 ?_
    exact w_areturn dX4_findWrite_62 rfl k
  · replace k := k.2 c
    refine w_aload_n dX4_findWrite_10 rfl ?_
    refine w_getR dX4_findWrite_11 f_4_11 t_4_0 g1 ?_
    refine w_iload_n dX4_findWrite_14 rfl ?_
    obtain ⟨g2, k⟩ := k
    obtain ⟨g3, k⟩ := k
    refine w_aaload dX4_findWrite_15 rfl g3 g2.1 g2.2 ?_
    obtain ⟨g4, k⟩ := k
    refine w_getZ dX4_findWrite_16 f_4_31 t_0_0 g4 ?_
    refine w_if_eq (pc' := 55) dX4_findWrite_19 rfl rfl ⟨fun c => ?_, fun c => ?_⟩
    · replace k := k.1 c
      refine w_iinc (lo' := [some (.ref v0), some (.int v1), some (.int v2), some (.int (v3 + (1 : Int32)))]) dX4_findWrite_55 rfl i1_1 rfl ?_
      refine w_goto (pc' := 2) dX4_findWrite_58 rfl rfl ?_
      exact k
    · replace k := k.2 c
      refine w_aload_n dX4_findWrite_22 rfl ?_
      refine w_getR dX4_findWrite_23 f_4_11 t_4_0 g1 ?_
      refine w_iload_n dX4_findWrite_26 rfl ?_
      refine w_aaload dX4_findWrite_27 rfl g3 g2.1 g2.2 ?_
      refine w_getI dX4_findWrite_28 f_4_35 t_0_1 g4 ?_
      refine w_iload_n dX4_findWrite_31 rfl ?_
      refine w_ic_ne (pc' := 55) dX4_findWrite_32 rfl rfl ⟨fun c => ?_, fun c => ?_⟩
      · replace k := k.1 c
        refine w_iinc (lo' := [some (.ref v0), some (.int v1), some (.int v2), some (.int (v3 + (1 : Int32)))]) dX4_findWrite_55 rfl i1_1 rfl ?_
        refine w_goto (pc' := 2) dX4_findWrite_58 rfl rfl ?_
        exact k
      · replace k := k.2 c
        refine w_aload_n dX4_findWrite_35 rfl ?_
        refine w_getR dX4_findWrite_36 f_4_11 t_4_0 g1 ?_
        refine w_iload_n dX4_findWrite_39 rfl ?_
        refine w_aaload dX4_findWrite_40 rfl g3 g2.1 g2.2 ?_
        refine w_getI dX4_findWrite_41 f_4_38 t_0_2 g4 ?_
        refine w_iload_n dX4_findWrite_44 rfl ?_
        refine w_ic_ne (pc' := 55) dX4_findWrite_45 rfl rfl ⟨fun c => ?_, fun c => ?_⟩
        · replace k := k.1 c
          refine w_iinc (lo' := [some (.ref v0), some (.int v1), some (.int v2), some (.int (v3 + (1 : Int32)))]) dX4_findWrite_55 rfl i1_1 rfl ?_
          refine w_goto (pc' := 2) dX4_findWrite_58 rfl rfl ?_
          exact k
        · replace k := k.2 c
          refine w_aload_n dX4_findWrite_48 rfl ?_
          refine w_getR dX4_findWrite_49 f_4_11 t_4_0 g1 ?_
          refine w_iload_n dX4_findWrite_52 rfl ?_
          refine w_aaload dX4_findWrite_53 rfl g3 g2.1 g2.2 ?_
          exact w_areturn dX4_findWrite_54 rfl k
theorem bX4_addWrite_0 {d : Nat} {h : HP} {Q : Out → HP → Prop} {v0 : Nat} {v1 : Int32} {v2 : Int32} {v3 : Int32} {u4 : Option Value} (k : (hK h v0 = 4) ∧ ((((14 : Int32) ≤ (hI h 402 v0)) → Q (.inl none) h) ∧ ((¬ ((14 : Int32) ≤ (hI h 402 v0))) → (25 ≤ hK h (hR h 400 v0) ∧ hK h (hR h 400 v0) ≤ 29) ∧ ((inA h (hR h 400 v0) (hI h 402 v0) = true) ∧ ((1 < (hAR h (hR h 400 v0) ((hI h 402 v0)).toNatClampNeg)) ∧ ((hK h (hAR h (hR h 400 v0) ((hI h 402 v0)).toNatClampNeg) = 0) ∧ (WP d mX0_start 0 [some (.ref (hAR h (hR h 400 v0) ((hI h 402 v0)).toNatClampNeg)), some (.int (1 : Int32)), some (.int v3), some (.int (hI (sI h 402 v0 ((hI h 402 v0) + (1 : Int32))) 403 v0))] [] (sI h 402 v0 ((hI h 402 v0) + (1 : Int32))) (KK d mX4_addWrite mX0_start 38 [some (.ref v0), some (.int v1), some (.int v2), some (.int v3), some (.ref (hAR h (hR h 400 v0) ((hI h 402 v0)).toNatClampNeg))] [] Q)))))))) : WP (d + 1) mX4_addWrite 0 [some (.ref v0), some (.int v1), some (.int v2), some (.int v3), u4] [] h Q := by
  refine w_aload_n dX4_addWrite_0 rfl ?_
  obtain ⟨g1, k⟩ := k
  refine w_getI dX4_addWrite_1 f_4_21 t_4_2 g1 ?_
  refine w_bipush dX4_addWrite_4 i2_14 ?_
  refine w_ic_ge (pc' := 53) dX4_addWrite_6 rfl rfl ⟨fun c => ?_, fun c => ?_⟩
  · replace k := k.1 c
    exact w_return dX4_addWrite_53 rfl k
  · replace k := k.2 c
    refine w_aload_n dX4_addWrite_9 rfl ?_
    refine w_getR dX4_addWrite_10 f_4_11 t_4_0 g1 ?_
    refine w_aload_n dX4_addWrite_13 rfl ?_
    refine w_getI dX4_addWrite_14 f_4_21 t_4_2 g1 ?_
    obtain ⟨g2, k⟩ := k
    obtain ⟨g3, k⟩ := k
    refine w_aaload dX4_addWrite_17 rfl g3 g2.1 g2.2 ?_
    refine w_astore (lo' := [some (.ref v0), some (.int v1), some (.int v2), some (.int v3), some (.ref (hAR h (hR h 400 v0) ((hI h 402 v0)).toNatClampNeg))]) dX4_addWrite_18 (ltQ rfl) rfl ?_
    refine w_aload_n dX4_addWrite_20 rfl ?_
    refine w_dup dX4_addWrite_21 rfl ?_
    refine w_getI dX4_addWrite_22 f_4_21 t_4_2 g1 ?_
    refine w_iconst dX4_addWrite_25 i1_1 ?_
    refine w_iadd dX4_addWrite_26 ?_
    refine w_putI dX4_addWrite_27 f_4_21 t_4_2 (pf_nf n_4_2) g1 ?_
    refine w_aload dX4_addWrite_30 rfl ?_
    refine w_iconst dX4_addWrite_32 i1_1 ?_
    refine w_iload_n dX4_addWrite_33 rfl ?_
    refine w_aload_n dX4_addWrite_34 rfl ?_
    refine w_getI dX4_addWrite_35 f_4_28 t_4_3 g1 ?_
    obtain ⟨g4, k⟩ := k
    obtain ⟨g5, k⟩ := k
    exact w_virt (as1 := [.int (hI (sI h 402 v0 ((hI h 402 v0) + (1 : Int32))) 403 v0), .int v3, .int (1 : Int32), .ref (hAR h (hR h 400 v0) ((hI h 402 v0)).toNatClampNeg)]) (as2 := [.ref (hAR h (hR h 400 v0) ((hI h 402 v0)).toNatClampNeg), .int (1 : Int32), .int v3, .int (hI (sI h 402 v0 ((hI h 402 v0) + (1 : Int32))) 403 v0)]) (rest := []) (lo2 := [some (.ref (hAR h (hR h 400 v0) ((hI h 402 v0)).toNatClampNeg)), some (.int (1 : Int32)), some (.int v3), some (.int (hI (sI h 402 v0 ((hI h 402 v0) + (1 : Int32))) 403 v0))]) dX4_addWrite_38 c_4_41 rfl rfl rfl (Nat.le_of_ble_eq_true rfl) (Nat.le_of_ble_eq_true rfl) rfl (Nat.le_of_ble_eq_true rfl) rfl rfl g4 g5 k
theorem bX4_addWrite_41 {d : Nat} {h : HP} {Q : Out → HP → Prop} {v0 : Nat} {v1 : Int32} {v2 : Int32} {v3 : Int32} {v4 : Nat} (k : (hK h v4 = 0) ∧ (Q (.inl none) (sI (sI h 1 v4 v1) 2 v4 v2))) : WP d mX4_addWrite 41 [some (.ref v0), some (.int v1), some (.int v2), some (.int v3), some (.ref v4)] [] h Q := by
  refine w_aload dX4_addWrite_41 rfl ?_
  refine w_iload_n dX4_addWrite_43 rfl ?_
  obtain ⟨g1, k⟩ := k
  refine w_putI dX4_addWrite_44 f_4_35 t_0_1 (pf_nf n_0_1) g1 ?_
  refine w_aload dX4_addWrite_47 rfl ?_
  refine w_iload_n dX4_addWrite_49 rfl ?_
  refine w_putI dX4_addWrite_50 f_4_38 t_0_2 (pf_nf n_0_2) g1 ?_
  exact w_return dX4_addWrite_53 rfl k
theorem bX4_addRead_0 {d : Nat} {h : HP} {Q : Out → HP → Prop} {v0 : Nat} {v1 : Int32} {u2 : Option Value} (k : (hK h v0 = 4) ∧ ((((14 : Int32) ≤ (hI h 402 v0)) → Q (.inl none) h) ∧ ((¬ ((14 : Int32) ≤ (hI h 402 v0))) → (((14 : Int32) ≤ (hI h 404 v0)) → Q (.inl none) h) ∧ ((¬ ((14 : Int32) ≤ (hI h 404 v0))) → (25 ≤ hK h (hR h 400 v0) ∧ hK h (hR h 400 v0) ≤ 29) ∧ ((inA h (hR h 400 v0) (hI h 402 v0) = true) ∧ ((1 < (hAR h (hR h 400 v0) ((hI h 402 v0)).toNatClampNeg)) ∧ ((hK h (hAR h (hR h 400 v0) ((hI h 402 v0)).toNatClampNeg) = 0) ∧ (WP d mX0_start 0 [some (.ref (hAR h (hR h 400 v0) ((hI h 402 v0)).toNatClampNeg)), some (.int (0 : Int32)), some (.int v1), some (.int (hI (sI h 402 v0 ((hI h 402 v0) + (1 : Int32))) 403 v0))] [] (sI h 402 v0 ((hI h 402 v0) + (1 : Int32))) (KK d mX4_addRead mX0_start 45 [some (.ref v0), some (.int v1), some (.ref (hAR h (hR h 400 v0) ((hI h 402 v0)).toNatClampNeg))] [] Q))))))))) : WP (d + 1) mX4_addRead 0 [some (.ref v0), some (.int v1), u2] [] h Q := by
  refine w_aload_n dX4_addRead_0 rfl ?_
  obtain ⟨g1, k⟩ := k
  refine w_getI dX4_addRead_1 f_4_21 t_4_2 g1 ?_
  refine w_bipush dX4_addRead_4 i2_14 ?_
  refine w_ic_ge (pc' := 76) dX4_addRead_6 rfl rfl ⟨fun c => ?_, fun c => ?_⟩
  · replace k := k.1 c
    exact w_return dX4_addRead_76 rfl k
  · replace k := k.2 c
    refine w_aload_n dX4_addRead_9 rfl ?_
    refine w_getI dX4_addRead_10 f_4_25 t_4_4 g1 ?_
    refine w_bipush dX4_addRead_13 i2_14 ?_
    refine w_ic_ge (pc' := 76) dX4_addRead_15 rfl rfl ⟨fun c => ?_, fun c => ?_⟩
    · replace k := k.1 c
      exact w_return dX4_addRead_76 rfl k
    · replace k := k.2 c
      refine w_aload_n dX4_addRead_18 rfl ?_
      refine w_getR dX4_addRead_19 f_4_11 t_4_0 g1 ?_
      refine w_aload_n dX4_addRead_22 rfl ?_
      refine w_getI dX4_addRead_23 f_4_21 t_4_2 g1 ?_
      obtain ⟨g2, k⟩ := k
      obtain ⟨g3, k⟩ := k
      refine w_aaload dX4_addRead_26 rfl g3 g2.1 g2.2 ?_
      refine w_astore_n (lo' := [some (.ref v0), some (.int v1), some (.ref (hAR h (hR h 400 v0) ((hI h 402 v0)).toNatClampNeg))]) dX4_addRead_27 (ltQ rfl) rfl ?_
      refine w_aload_n dX4_addRead_28 rfl ?_
      refine w_dup dX4_addRead_29 rfl ?_
      refine w_getI dX4_addRead_30 f_4_21 t_4_2 g1 ?_
      refine w_iconst dX4_addRead_33 i1_1 ?_
      refine w_iadd dX4_addRead_34 ?_
      refine w_putI dX4_addRead_35 f_4_21 t_4_2 (pf_nf n_4_2) g1 ?_
      refine w_aload_n dX4_addRead_38 rfl ?_
      refine w_iconst dX4_addRead_39 i1_0 ?_
      refine w_iload_n dX4_addRead_40 rfl ?_
      refine w_aload_n dX4_addRead_41 rfl ?_
      refine w_getI dX4_addRead_42 f_4_28 t_4_3 g1 ?_
      obtain ⟨g4, k⟩ := k
      obtain ⟨g5, k⟩ := k
      exact w_virt (as1 := [.int (hI (sI h 402 v0 ((hI h 402 v0) + (1 : Int32))) 403 v0), .int v1, .int (0 : Int32), .ref (hAR h (hR h 400 v0) ((hI h 402 v0)).toNatClampNeg)]) (as2 := [.ref (hAR h (hR h 400 v0) ((hI h 402 v0)).toNatClampNeg), .int (0 : Int32), .int v1, .int (hI (sI h 402 v0 ((hI h 402 v0) + (1 : Int32))) 403 v0)]) (rest := []) (lo2 := [some (.ref (hAR h (hR h 400 v0) ((hI h 402 v0)).toNatClampNeg)), some (.int (0 : Int32)), some (.int v1), some (.int (hI (sI h 402 v0 ((hI h 402 v0) + (1 : Int32))) 403 v0))]) dX4_addRead_45 c_4_41 rfl rfl rfl (Nat.le_of_ble_eq_true rfl) (Nat.le_of_ble_eq_true rfl) rfl (Nat.le_of_ble_eq_true rfl) rfl rfl g4 g5 k
theorem bX4_addRead_48 {d : Nat} {h : HP} {Q : Out → HP → Prop} {v0 : Nat} {v1 : Int32} {v2 : Nat} (k : (hK h v0 = 4) ∧ ((hK h v2 = 0) ∧ ((25 ≤ hK h (hR h 401 v0) ∧ hK h (hR h 401 v0) ≤ 29) ∧ ((inA h (hR h 401 v0) (hI (sI h 5 v2 (hI h 403 v0)) 404 v0) = true) ∧ ((1 < v2 ∧ hK h v2 = acl (hK h (hR h 401 v0) - 25)) ∧ (Q (.inl none) (sI (sAR (sI h 5 v2 (hI h 403 v0)) (hR h 401 v0) ((hI (sI h 5 v2 (hI h 403 v0)) 404 v0)).toNatClampNeg v2) 404 v0 ((hI (sI h 5 v2 (hI h 403 v0)) 404 v0) + (1 : Int32))))))))) : WP d mX4_addRead 48 [some (.ref v0), some (.int v1), some (.ref v2)] [] h Q := by
  refine w_aload_n dX4_addRead_48 rfl ?_
  refine w_aload_n dX4_addRead_49 rfl ?_
  obtain ⟨g1, k⟩ := k
  refine w_getI dX4_addRead_50 f_4_28 t_4_3 g1 ?_
  obtain ⟨g2, k⟩ := k
  refine w_putI dX4_addRead_53 f_4_45 t_0_5 (pf_nf n_0_5) g2 ?_
  refine w_aload_n dX4_addRead_56 rfl ?_
  refine w_getR dX4_addRead_57 f_4_17 t_4_1 g1 ?_
  refine w_aload_n dX4_addRead_60 rfl ?_
  refine w_getI dX4_addRead_61 f_4_25 t_4_4 g1 ?_
  refine w_aload_n dX4_addRead_64 rfl ?_
  obtain ⟨g3, k⟩ := k
  obtain ⟨g4, k⟩ := k
  obtain ⟨g5, k⟩ := k
  refine w_aastore dX4_addRead_65 rfl g4 g3.1 g3.2 g5.1 g5.2 ?_
  refine w_aload_n dX4_addRead_66 rfl ?_
  refine w_dup dX4_addRead_67 rfl ?_
  refine w_getI dX4_addRead_68 f_4_25 t_4_4 g1 ?_
  refine w_iconst dX4_addRead_71 i1_1 ?_
  refine w_iadd dX4_addRead_72 ?_
  refine w_putI dX4_addRead_73 f_4_25 t_4_4 (pf_nf n_4_4) g1 ?_
  exact w_return dX4_addRead_76 rfl k
theorem bX4_answerWrites_0 {d : Nat} {h : HP} {Q : Out → HP → Prop} {v0 : Nat} {v1 : Nat} {u2 : Option Value} {u3 : Option Value} (k : (hK h v1 = 8) ∧ ((((hI h 807 v1) = (2 : Int32)) → WP d mX4_answerWrites 11 [some (.ref v0), some (.ref v1), some (.int (0 : Int32)), u3] [] h Q) ∧ ((¬ ((hI h 807 v1) = (2 : Int32))) → Q (.inl none) h))) : WP d mX4_answerWrites 0 [some (.ref v0), some (.ref v1), u2, u3] [] h Q := by
  refine w_aload_n dX4_answerWrites_0 rfl ?_
  obtain ⟨g1, k⟩ := k
  refine w_getI dX4_answerWrites_1 f_4_48 t_8_7 g1 ?_
  refine w_iconst dX4_answerWrites_4 i1_2 ?_
  refine w_ic_eq (pc' := 9) dX4_answerWrites_5 rfl rfl ⟨fun c => ?_, fun c => ?_⟩
  · replace k := k.1 c
    refine w_iconst dX4_answerWrites_9 i1_0 ?_
    refine w_istore_n (lo' := [some (.ref v0), some (.ref v1), some (.int (0 : Int32)), u3]) dX4_answerWrites_10 (ltQ rfl) rfl ?_
    exact k
  · replace k := k.2 c
    exact w_return dX4_answerWrites_8 rfl k
theorem bX4_answerWrites_11 {d : Nat} {h : HP} {Q : Out → HP → Prop} {v0 : Nat} {v1 : Nat} {v2 : Int32} {u3 : Option Value} (k : (hK h v0 = 4) ∧ ((((hI h 402 v0) ≤ v2) → Q (.inl none) h) ∧ ((¬ ((hI h 402 v0) ≤ v2)) → (25 ≤ hK h (hR h 400 v0) ∧ hK h (hR h 400 v0) ≤ 29) ∧ ((inA h (hR h 400 v0) v2 = true) ∧ ((hK h (hAR h (hR h 400 v0) (v2).toNatClampNeg) = 0) ∧ ((((hI h 0 (hAR h (hR h 400 v0) (v2).toNatClampNeg)) = 0) → WP (d + 1) mX4_answerWrites 11 [some (.ref v0), some (.ref v1), some (.int (v2 + (1 : Int32))), u3] [] h Q) ∧ ((¬ ((hI h 0 (hAR h (hR h 400 v0) (v2).toNatClampNeg)) = 0)) → ((¬ (hI h 5 (hAR h (hR h 400 v0) (v2).toNatClampNeg)) = (-1 : Int32)) → WP (d + 1) mX4_answerWrites 11 [some (.ref v0), some (.ref v1), some (.int (v2 + (1 : Int32))), u3] [] h Q) ∧ ((¬ (¬ (hI h 5 (hAR h (hR h 400 v0) (v2).toNatClampNeg)) = (-1 : Int32))) → (hK h v1 = 8) ∧ ((1 < (hR h 801 v1)) ∧ ((hK h (hR h 801 v1) = 7) ∧ (WP d mX7_numberOf 0 [some (.ref (hR h 801 v1)), some (.int (hI h 1 (hAR h (hR h 400 v0) (v2).toNatClampNeg))), some (.int (hI h 2 (hAR h (hR h 400 v0) (v2).toNatClampNeg))), none] [] h (KK d mX4_answerWrites mX7_numberOf 66 [some (.ref v0), some (.ref v1), some (.int v2), u3] [] Q)))))))))))) : WP (d + 1) mX4_answerWrites 11 [some (.ref v0), some (.ref v1), some (.int v2), u3] [] h Q := by
  refine w_iload_n dX4_answerWrites_11 rfl ?_
  refine w_aload_n dX4_answerWrites_12 rfl ?_
  obtain ⟨g1, k⟩ := k
  refine w_getI dX4_answerWrites_13 f_4_21 t_4_2 g1 ?_
  refine w_ic_ge (pc' := 102) dX4_answerWrites_16 rfl rfl ⟨fun c => ?_, fun c => ?_⟩
  · replace k := k.1 c
    exact w_return dX4_answerWrites_102 rfl k
  · replace k := k.2 c
    refine w_aload_n dX4_answerWrites_19 rfl ?_
    refine w_getR dX4_answerWrites_20 f_4_11 t_4_0 g1 ?_
    refine w_iload_n dX4_answerWrites_23 rfl ?_
    obtain ⟨g2, k⟩ := k
    obtain ⟨g3, k⟩ := k
    refine w_aaload dX4_answerWrites_24 rfl g3 g2.1 g2.2 ?_
    obtain ⟨g4, k⟩ := k
    refine w_getZ dX4_answerWrites_25 f_4_31 t_0_0 g4 ?_
    refine w_if_eq (pc' := 96) dX4_answerWrites_28 rfl rfl ⟨fun c => ?_, fun c => ?_⟩
    · replace k := k.1 c
      refine w_iinc (lo' := [some (.ref v0), some (.ref v1), some (.int (v2 + (1 : Int32))), u3]) dX4_answerWrites_96 rfl i1_1 rfl ?_
      refine w_goto (pc' := 11) dX4_answerWrites_99 rfl rfl ?_
      exact k
    · replace k := k.2 c
      refine w_aload_n dX4_answerWrites_31 rfl ?_
      refine w_getR dX4_answerWrites_32 f_4_11 t_4_0 g1 ?_
      refine w_iload_n dX4_answerWrites_35 rfl ?_
      refine w_aaload dX4_answerWrites_36 rfl g3 g2.1 g2.2 ?_
      refine w_getI dX4_answerWrites_37 f_4_45 t_0_5 g4 ?_
      refine w_iconst dX4_answerWrites_40 i1_m1 ?_
      refine w_ic_ne (pc' := 96) dX4_answerWrites_41 rfl rfl ⟨fun c => ?_, fun c => ?_⟩
      · replace k := k.1 c
        refine w_iinc (lo' := [some (.ref v0), some (.ref v1), some (.int (v2 + (1 : Int32))), u3]) dX4_answerWrites_96 rfl i1_1 rfl ?_
        refine w_goto (pc' := 11) dX4_answerWrites_99 rfl rfl ?_
        exact k
      · replace k := k.2 c
        refine w_aload_n dX4_answerWrites_44 rfl ?_
        obtain ⟨g5, k⟩ := k
        refine w_getR dX4_answerWrites_45 f_4_53 t_8_1 g5 ?_
        refine w_aload_n dX4_answerWrites_48 rfl ?_
        refine w_getR dX4_answerWrites_49 f_4_11 t_4_0 g1 ?_
        refine w_iload_n dX4_answerWrites_52 rfl ?_
        refine w_aaload dX4_answerWrites_53 rfl g3 g2.1 g2.2 ?_
        refine w_getI dX4_answerWrites_54 f_4_35 t_0_1 g4 ?_
        refine w_aload_n dX4_answerWrites_57 rfl ?_
        refine w_getR dX4_answerWrites_58 f_4_11 t_4_0 g1 ?_
        refine w_iload_n dX4_answerWrites_61 rfl ?_
        refine w_aaload dX4_answerWrites_62 rfl g3 g2.1 g2.2 ?_
        refine w_getI dX4_answerWrites_63 f_4_38 t_0_2 g4 ?_
        obtain ⟨g6, k⟩ := k
        obtain ⟨g7, k⟩ := k
        exact w_virt (as1 := [.int (hI h 2 (hAR h (hR h 400 v0) (v2).toNatClampNeg)), .int (hI h 1 (hAR h (hR h 400 v0) (v2).toNatClampNeg)), .ref (hR h 801 v1)]) (as2 := [.ref (hR h 801 v1), .int (hI h 1 (hAR h (hR h 400 v0) (v2).toNatClampNeg)), .int (hI h 2 (hAR h (hR h 400 v0) (v2).toNatClampNeg))]) (rest := []) (lo2 := [some (.ref (hR h 801 v1)), some (.int (hI h 1 (hAR h (hR h 400 v0) (v2).toNatClampNeg))), some (.int (hI h 2 (hAR h (hR h 400 v0) (v2).toNatClampNeg))), none]) dX4_answerWrites_66 c_4_57 rfl rfl rfl (Nat.le_of_ble_eq_true rfl) (Nat.le_of_ble_eq_true rfl) rfl (Nat.le_of_ble_eq_true rfl) rfl rfl g6 g7 k
theorem bX4_answerWrites_69 {d : Nat} {h : HP} {Q : Out → HP → Prop} {v0 : Nat} {v1 : Nat} {v2 : Int32} {u3 : Option Value} {s0 : Int32} (k : ((s0 < (1 : Int32)) → WP d mX4_answerWrites 11 [some (.ref v0), some (.ref v1), some (.int (v2 + (1 : Int32))), some (.int s0)] [] h Q) ∧ ((¬ (s0 < (1 : Int32))) → (hK h v1 = 8) ∧ ((((hI h 810 v1) < s0) → WP d mX4_answerWrites 11 [some (.ref v0), some (.ref v1), some (.int (v2 + (1 : Int32))), some (.int s0)] [] h Q) ∧ ((¬ ((hI h 810 v1) < s0)) → (hK h v0 = 4) ∧ ((25 ≤ hK h (hR h 400 v0) ∧ hK h (hR h 400 v0) ≤ 29) ∧ ((inA h (hR h 400 v0) v2 = true) ∧ ((hK h (hAR h (hR h 400 v0) (v2).toNatClampNeg) = 0) ∧ (WP d mX4_answerWrites 11 [some (.ref v0), some (.ref v1), some (.int (v2 + (1 : Int32))), some (.int s0)] [] (sI h 5 (hAR h (hR h 400 v0) (v2).toNatClampNeg) (hI h 403 v0)) Q)))))))) : WP d mX4_answerWrites 69 [some (.ref v0), some (.ref v1), some (.int v2), u3] [.int s0] h Q := by
  refine w_istore_n (lo' := [some (.ref v0), some (.ref v1), some (.int v2), some (.int s0)]) dX4_answerWrites_69 (ltQ rfl) rfl ?_
  refine w_iload_n dX4_answerWrites_70 rfl ?_
  refine w_iconst dX4_answerWrites_71 i1_1 ?_
  refine w_ic_lt (pc' := 96) dX4_answerWrites_72 rfl rfl ⟨fun c => ?_, fun c => ?_⟩
  · replace k := k.1 c
    refine w_iinc (lo' := [some (.ref v0), some (.ref v1), some (.int (v2 + (1 : Int32))), some (.int s0)]) dX4_answerWrites_96 rfl i1_1 rfl ?_
    refine w_goto (pc' := 11) dX4_answerWrites_99 rfl rfl ?_
    exact k
  · replace k := k.2 c
    refine w_iload_n dX4_answerWrites_75 rfl ?_
    refine w_aload_n dX4_answerWrites_76 rfl ?_
    obtain ⟨g1, k⟩ := k
    refine w_getI dX4_answerWrites_77 f_4_63 t_8_10 g1 ?_
    refine w_ic_gt (pc' := 96) dX4_answerWrites_80 rfl rfl ⟨fun c => ?_, fun c => ?_⟩
    · replace k := k.1 c
      refine w_iinc (lo' := [some (.ref v0), some (.ref v1), some (.int (v2 + (1 : Int32))), some (.int s0)]) dX4_answerWrites_96 rfl i1_1 rfl ?_
      refine w_goto (pc' := 11) dX4_answerWrites_99 rfl rfl ?_
      exact k
    · replace k := k.2 c
      refine w_aload_n dX4_answerWrites_83 rfl ?_
      obtain ⟨g2, k⟩ := k
      refine w_getR dX4_answerWrites_84 f_4_11 t_4_0 g2 ?_
      refine w_iload_n dX4_answerWrites_87 rfl ?_
      obtain ⟨g3, k⟩ := k
      obtain ⟨g4, k⟩ := k
      refine w_aaload dX4_answerWrites_88 rfl g4 g3.1 g3.2 ?_
      refine w_aload_n dX4_answerWrites_89 rfl ?_
      refine w_getI dX4_answerWrites_90 f_4_28 t_4_3 g2 ?_
      obtain ⟨g5, k⟩ := k
      refine w_putI dX4_answerWrites_93 f_4_45 t_0_5 (pf_nf n_0_5) g5 ?_
      refine w_iinc (lo' := [some (.ref v0), some (.ref v1), some (.int (v2 + (1 : Int32))), some (.int s0)]) dX4_answerWrites_96 rfl i1_1 rfl ?_
      refine w_goto (pc' := 11) dX4_answerWrites_99 rfl rfl ?_
      exact k
theorem bX4_hasOneOrder_0 {d : Nat} {h : HP} {Q : Out → HP → Prop} {v0 : Nat} (k : WP d mX4_canFeed 0 [some (.ref v0), some (.int (0 : Int32)), some (.int (0 : Int32)), some (.int (0 : Int32)), some (.int (0 : Int32)), none, none, none, none, none, none, none] [] h (KK d mX4_hasOneOrder mX4_canFeed 5 [some (.ref v0)] [] Q)) : WP (d + 1) mX4_hasOneOrder 0 [some (.ref v0)] [] h Q := by
  refine w_aload_n dX4_hasOneOrder_0 rfl ?_
  refine w_iconst dX4_hasOneOrder_1 i1_0 ?_
  refine w_iconst dX4_hasOneOrder_2 i1_0 ?_
  refine w_iconst dX4_hasOneOrder_3 i1_0 ?_
  refine w_iconst dX4_hasOneOrder_4 i1_0 ?_
  exact w_stat (as1 := [.int (0 : Int32), .int (0 : Int32), .int (0 : Int32), .int (0 : Int32), .ref v0]) (as2 := [.ref v0, .int (0 : Int32), .int (0 : Int32), .int (0 : Int32), .int (0 : Int32)]) (rest := []) (lo2 := [some (.ref v0), some (.int (0 : Int32)), some (.int (0 : Int32)), some (.int (0 : Int32)), some (.int (0 : Int32)), none, none, none, none, none, none, none]) dX4_hasOneOrder_5 c_4_66 rfl rfl rfl (Nat.le_of_ble_eq_true rfl) (Nat.le_of_ble_eq_true rfl) rfl (Nat.le_of_ble_eq_true rfl) rfl k
theorem bX4_hasOneOrder_8 {d : Nat} {h : HP} {Q : Out → HP → Prop} {v0 : Nat} {s0 : Int32} (k : (isZ s0 = true) ∧ (Q (.inl (some (.int s0))) h)) : WP d mX4_hasOneOrder 8 [some (.ref v0)] [.int s0] h Q := by
  obtain ⟨g1, k⟩ := k
  exact w_ireturn dX4_hasOneOrder_8 g1 k
theorem bX4_canFeed_0 {d : Nat} {h : HP} {Q : Out → HP → Prop} {v0 : Nat} {v1 : Int32} {v2 : Int32} {v3 : Int32} {v4 : Int32} {u5 : Option Value} {u6 : Option Value} {u7 : Option Value} {u8 : Option Value} {u9 : Option Value} {u10 : Option Value} {u11 : Option Value} (k : (hK h v0 = 4) ∧ (((v1 < (hI h 404 v0)) → (25 ≤ hK h (hR h 401 v0) ∧ hK h (hR h 401 v0) ≤ 29) ∧ ((inA h (hR h 401 v0) v1 = true) ∧ (((¬ v1 = 0) → (inA h (hR h 401 v0) (v1 - (1 : Int32)) = true) ∧ ((hK h (hAR h (hR h 401 v0) ((v1 - (1 : Int32))).toNatClampNeg) = 0) ∧ ((hK h (hAR h (hR h 401 v0) (v1).toNatClampNeg) = 0) ∧ ((1 < v0) ∧ (WP d mX4_writesDueAhead 0 [some (.ref v0), some (.int (hI h 4 (hAR h (hR h 401 v0) (v1).toNatClampNeg))), none, none] [] h (KK d mX4_canFeed mX4_writesDueAhead 45 [some (.ref v0), some (.int v1), some (.int v2), some (.int v3), some (.int v4), some (.ref (hAR h (hR h 401 v0) (v1).toNatClampNeg)), some (.int (hI h 4 (hAR h (hR h 401 v0) ((v1 - (1 : Int32))).toNatClampNeg))), u7, u8, u9, u10, u11] [] Q)))))) ∧ ((¬ (¬ v1 = 0)) → (hK h (hAR h (hR h 401 v0) (v1).toNatClampNeg) = 0) ∧ ((1 < v0) ∧ (WP d mX4_writesDueAhead 0 [some (.ref v0), some (.int (hI h 4 (hAR h (hR h 401 v0) (v1).toNatClampNeg))), none, none] [] h (KK d mX4_canFeed mX4_writesDueAhead 45 [some (.ref v0), some (.int v1), some (.int v2), some (.int v3), some (.int v4), some (.ref (hAR h (hR h 401 v0) (v1).toNatClampNeg)), some (.int (0 : Int32)), u7, u8, u9, u10, u11] [] Q))))))) ∧ ((¬ (v1 < (hI h 404 v0))) → Q (.inl (some (.int (1 : Int32)))) h))) : WP (d + 1) mX4_canFeed 0 [some (.ref v0), some (.int v1), some (.int v2), some (.int v3), some (.int v4), u5, u6, u7, u8, u9, u10, u11] [] h Q := by
  refine w_iload_n dX4_canFeed_0 rfl ?_
  refine w_aload_n dX4_canFeed_1 rfl ?_
  obtain ⟨g1, k⟩ := k
  refine w_getI dX4_canFeed_2 f_4_25 t_4_4 g1 ?_
  refine w_ic_lt (pc' := 10) dX4_canFeed_5 rfl rfl ⟨fun c => ?_, fun c => ?_⟩
  · replace k := k.1 c
    refine w_aload_n dX4_canFeed_10 rfl ?_
    refine w_getR dX4_canFeed_11 f_4_17 t_4_1 g1 ?_
    refine w_iload_n dX4_canFeed_14 rfl ?_
    obtain ⟨g2, k⟩ := k
    obtain ⟨g3, k⟩ := k
    refine w_aaload dX4_canFeed_15 rfl g3 g2.1 g2.2 ?_
    refine w_astore (lo' := [some (.ref v0), some (.int v1), some (.int v2), some (.int v3), some (.int v4), some (.ref (hAR h (hR h 401 v0) (v1).toNatClampNeg)), u6, u7, u8, u9, u10, u11]) dX4_canFeed_16 (ltQ rfl) rfl ?_
    refine w_iload_n dX4_canFeed_18 rfl ?_
    refine w_if_ne (pc' := 26) dX4_canFeed_19 rfl rfl ⟨fun c => ?_, fun c => ?_⟩
    · replace k := k.1 c
      refine w_aload_n dX4_canFeed_26 rfl ?_
      refine w_getR dX4_canFeed_27 f_4_17 t_4_1 g1 ?_
      refine w_iload_n dX4_canFeed_30 rfl ?_
      refine w_iconst dX4_canFeed_31 i1_1 ?_
      refine w_isub dX4_canFeed_32 ?_
      obtain ⟨g4, k⟩ := k
      refine w_aaload dX4_canFeed_33 rfl g4 g2.1 g2.2 ?_
      obtain ⟨g5, k⟩ := k
      refine w_getI dX4_canFeed_34 f_4_70 t_0_4 g5 ?_
      refine w_istore (lo' := [some (.ref v0), some (.int v1), some (.int v2), some (.int v3), some (.int v4), some (.ref (hAR h (hR h 401 v0) (v1).toNatClampNeg)), some (.int (hI h 4 (hAR h (hR h 401 v0) ((v1 - (1 : Int32))).toNatClampNeg))), u7, u8, u9, u10, u11]) dX4_canFeed_37 (ltQ rfl) rfl ?_
      refine w_aload_n dX4_canFeed_39 rfl ?_
      refine w_aload dX4_canFeed_40 rfl ?_
      obtain ⟨g6, k⟩ := k
      refine w_getI dX4_canFeed_42 f_4_70 t_0_4 g6 ?_
      obtain ⟨g7, k⟩ := k
      exact w_virt (as1 := [.int (hI h 4 (hAR h (hR h 401 v0) (v1).toNatClampNeg)), .ref v0]) (as2 := [.ref v0, .int (hI h 4 (hAR h (hR h 401 v0) (v1).toNatClampNeg))]) (rest := []) (lo2 := [some (.ref v0), some (.int (hI h 4 (hAR h (hR h 401 v0) (v1).toNatClampNeg))), none, none]) dX4_canFeed_45 c_4_73 rfl rfl rfl (Nat.le_of_ble_eq_true rfl) (Nat.le_of_ble_eq_true rfl) rfl (Nat.le_of_ble_eq_true rfl) rfl rfl g7 g1 k
    · replace k := k.2 c
      refine w_iconst dX4_canFeed_22 i1_0 ?_
      refine w_goto (pc' := 37) dX4_canFeed_23 rfl rfl ?_
      refine w_istore (lo' := [some (.ref v0), some (.int v1), some (.int v2), some (.int v3), some (.int v4), some (.ref (hAR h (hR h 401 v0) (v1).toNatClampNeg)), some (.int (0 : Int32)), u7, u8, u9, u10, u11]) dX4_canFeed_37 (ltQ rfl) rfl ?_
      refine w_aload_n dX4_canFeed_39 rfl ?_
      refine w_aload dX4_canFeed_40 rfl ?_
      obtain ⟨g8, k⟩ := k
      refine w_getI dX4_canFeed_42 f_4_70 t_0_4 g8 ?_
      obtain ⟨g9, k⟩ := k
      exact w_virt (as1 := [.int (hI h 4 (hAR h (hR h 401 v0) (v1).toNatClampNeg)), .ref v0]) (as2 := [.ref v0, .int (hI h 4 (hAR h (hR h 401 v0) (v1).toNatClampNeg))]) (rest := []) (lo2 := [some (.ref v0), some (.int (hI h 4 (hAR h (hR h 401 v0) (v1).toNatClampNeg))), none, none]) dX4_canFeed_45 c_4_73 rfl rfl rfl (Nat.le_of_ble_eq_true rfl) (Nat.le_of_ble_eq_true rfl) rfl (Nat.le_of_ble_eq_true rfl) rfl rfl g9 g1 k
  · replace k := k.2 c
    refine w_iconst dX4_canFeed_8 i1_1 ?_
    exact w_ireturn dX4_canFeed_9 rfl k
theorem bX4_canFeed_48 {d : Nat} {h : HP} {Q : Out → HP → Prop} {v0 : Nat} {v1 : Int32} {v2 : Int32} {v3 : Int32} {v4 : Int32} {v5 : Nat} {v6 : Int32} {u7 : Option Value} {u8 : Option Value} {u9 : Option Value} {u10 : Option Value} {u11 : Option Value} {s0 : Int32} (k : (hK h v5 = 0) ∧ (((¬ v2 = (hI h 3 v5)) → WP (d + 1) mX4_canFeed 88 [some (.ref v0), some (.int v1), some (.int v2), some (.int v3), some (.int v4), some (.ref v5), some (.int v6), some (.int s0), some (.int (0 : Int32)), u9, u10, u11] [] h Q) ∧ ((¬ (¬ v2 = (hI h 3 v5))) → ((¬ (s0 &&& (v4 ^^^ (-1 : Int32))) = 0) → WP (d + 1) mX4_canFeed 88 [some (.ref v0), some (.int v1), some (.int v2), some (.int v3), some (.int v4), some (.ref v5), some (.int v6), some (.int s0), some (.int (0 : Int32)), u9, u10, u11] [] h Q) ∧ ((¬ (¬ (s0 &&& (v4 ^^^ (-1 : Int32))) = 0)) → WP d mX4_canFeed 0 [some (.ref v0), some (.int (v1 + (1 : Int32))), some (.int v2), some (.int v3), some (.int v4), none, none, none, none, none, none, none] [] h (KK d mX4_canFeed mX4_canFeed 77 [some (.ref v0), some (.int v1), some (.int v2), some (.int v3), some (.int v4), some (.ref v5), some (.int v6), some (.int s0), u8, u9, u10, u11] [] Q))))) : WP (d + 1) mX4_canFeed 48 [some (.ref v0), some (.int v1), some (.int v2), some (.int v3), some (.int v4), some (.ref v5), some (.int v6), u7, u8, u9, u10, u11] [.int s0] h Q := by
  refine w_istore (lo' := [some (.ref v0), some (.int v1), some (.int v2), some (.int v3), some (.int v4), some (.ref v5), some (.int v6), some (.int s0), u8, u9, u10, u11]) dX4_canFeed_48 (ltQ rfl) rfl ?_
  refine w_iload_n dX4_canFeed_50 rfl ?_
  refine w_aload dX4_canFeed_51 rfl ?_
  obtain ⟨g1, k⟩ := k
  refine w_getI dX4_canFeed_53 f_4_77 t_0_3 g1 ?_
  refine w_ic_ne (pc' := 85) dX4_canFeed_56 rfl rfl ⟨fun c => ?_, fun c => ?_⟩
  · replace k := k.1 c
    refine w_iconst dX4_canFeed_85 i1_0 ?_
    refine w_istore (lo' := [some (.ref v0), some (.int v1), some (.int v2), some (.int v3), some (.int v4), some (.ref v5), some (.int v6), some (.int s0), some (.int (0 : Int32)), u9, u10, u11]) dX4_canFeed_86 (ltQ rfl) rfl ?_
    exact k
  · replace k := k.2 c
    refine w_iload dX4_canFeed_59 rfl ?_
    refine w_iload dX4_canFeed_61 rfl ?_
    refine w_iconst dX4_canFeed_63 i1_m1 ?_
    refine w_ixor dX4_canFeed_64 ?_
    refine w_iand dX4_canFeed_65 ?_
    refine w_if_ne (pc' := 85) dX4_canFeed_66 rfl rfl ⟨fun c => ?_, fun c => ?_⟩
    · replace k := k.1 c
      refine w_iconst dX4_canFeed_85 i1_0 ?_
      refine w_istore (lo' := [some (.ref v0), some (.int v1), some (.int v2), some (.int v3), some (.int v4), some (.ref v5), some (.int v6), some (.int s0), some (.int (0 : Int32)), u9, u10, u11]) dX4_canFeed_86 (ltQ rfl) rfl ?_
      exact k
    · replace k := k.2 c
      refine w_aload_n dX4_canFeed_69 rfl ?_
      refine w_iload_n dX4_canFeed_70 rfl ?_
      refine w_iconst dX4_canFeed_71 i1_1 ?_
      refine w_iadd dX4_canFeed_72 ?_
      refine w_iload_n dX4_canFeed_73 rfl ?_
      refine w_iload_n dX4_canFeed_74 rfl ?_
      refine w_iload dX4_canFeed_75 rfl ?_
      exact w_stat (as1 := [.int v4, .int v3, .int v2, .int (v1 + (1 : Int32)), .ref v0]) (as2 := [.ref v0, .int (v1 + (1 : Int32)), .int v2, .int v3, .int v4]) (rest := []) (lo2 := [some (.ref v0), some (.int (v1 + (1 : Int32))), some (.int v2), some (.int v3), some (.int v4), none, none, none, none, none, none, none]) dX4_canFeed_77 c_4_66 rfl rfl rfl (Nat.le_of_ble_eq_true rfl) (Nat.le_of_ble_eq_true rfl) rfl (Nat.le_of_ble_eq_true rfl) rfl k
theorem bX4_canFeed_80 {d : Nat} {h : HP} {Q : Out → HP → Prop} {v0 : Nat} {v1 : Int32} {v2 : Int32} {v3 : Int32} {v4 : Int32} {v5 : Nat} {v6 : Int32} {v7 : Int32} {u8 : Option Value} {u9 : Option Value} {u10 : Option Value} {u11 : Option Value} {s0 : Int32} (k : ((s0 = 0) → WP d mX4_canFeed 88 [some (.ref v0), some (.int v1), some (.int v2), some (.int v3), some (.int v4), some (.ref v5), some (.int v6), some (.int v7), some (.int (0 : Int32)), u9, u10, u11] [] h Q) ∧ ((¬ (s0 = 0)) → Q (.inl (some (.int (1 : Int32)))) h)) : WP d mX4_canFeed 80 [some (.ref v0), some (.int v1), some (.int v2), some (.int v3), some (.int v4), some (.ref v5), some (.int v6), some (.int v7), u8, u9, u10, u11] [.int s0] h Q := by
  refine w_if_eq (pc' := 85) dX4_canFeed_80 rfl rfl ⟨fun c => ?_, fun c => ?_⟩
  · replace k := k.1 c
    refine w_iconst dX4_canFeed_85 i1_0 ?_
    refine w_istore (lo' := [some (.ref v0), some (.int v1), some (.int v2), some (.int v3), some (.int v4), some (.ref v5), some (.int v6), some (.int v7), some (.int (0 : Int32)), u9, u10, u11]) dX4_canFeed_86 (ltQ rfl) rfl ?_
    exact k
  · replace k := k.2 c
    refine w_iconst dX4_canFeed_83 i1_1 ?_
    exact w_ireturn dX4_canFeed_84 rfl k
theorem bX4_canFeed_88 {d : Nat} {h : HP} {Q : Out → HP → Prop} {v0 : Nat} {v1 : Int32} {v2 : Int32} {v3 : Int32} {v4 : Int32} {v5 : Nat} {v6 : Int32} {v7 : Int32} {v8 : Int32} {u9 : Option Value} {u10 : Option Value} {u11 : Option Value} (k : (hK h v0 = 4) ∧ ((((hI h 402 v0) ≤ v8) → Q (.inl (some (.int (0 : Int32)))) h) ∧ ((¬ ((hI h 402 v0) ≤ v8)) → (25 ≤ hK h (hR h 400 v0) ∧ hK h (hR h 400 v0) ≤ 29) ∧ ((inA h (hR h 400 v0) v8 = true) ∧ ((hK h (hAR h (hR h 400 v0) (v8).toNatClampNeg) = 0) ∧ ((hK h v5 = 0) ∧ (((¬ (hI h 3 (hAR h (hR h 400 v0) (v8).toNatClampNeg)) = (hI h 3 v5)) → (((0 : Int32) = 0) → WP (d + 1) mX4_canFeed 88 [some (.ref v0), some (.int v1), some (.int v2), some (.int v3), some (.int v4), some (.ref v5), some (.int v6), some (.int v7), some (.int (v8 + (1 : Int32))), some (.ref (hAR h (hR h 400 v0) (v8).toNatClampNeg)), some (.int (0 : Int32)), u11] [] h Q) ∧ ((¬ ((0 : Int32) = 0)) → ((¬ ((v3 >>> (v8 &&& 31)) &&& (1 : Int32)) = 0) → WP (d + 1) mX4_canFeed 88 [some (.ref v0), some (.int v1), some (.int v2), some (.int v3), some (.int v4), some (.ref v5), some (.int v6), some (.int v7), some (.int (v8 + (1 : Int32))), some (.ref (hAR h (hR h 400 v0) (v8).toNatClampNeg)), some (.int (0 : Int32)), u11] [] h Q) ∧ ((¬ (¬ ((v3 >>> (v8 &&& 31)) &&& (1 : Int32)) = 0)) → (1 < v0) ∧ (WP d mX4_writesAheadOf 0 [some (.ref v0), some (.ref (hAR h (hR h 400 v0) (v8).toNatClampNeg)), some (.int v6), some (.int (hI h 4 v5)), none, none] [] h (KK d mX4_canFeed mX4_writesAheadOf 167 [some (.ref v0), some (.int v1), some (.int v2), some (.int v3), some (.int v4), some (.ref v5), some (.int v6), some (.int v7), some (.int v8), some (.ref (hAR h (hR h 400 v0) (v8).toNatClampNeg)), some (.int (0 : Int32)), u11] [.int v4] Q))))) ∧ ((¬ (¬ (hI h 3 (hAR h (hR h 400 v0) (v8).toNatClampNeg)) = (hI h 3 v5))) → (1 < (hAR h (hR h 400 v0) (v8).toNatClampNeg)) ∧ (WP d mX0_fitsBetween 0 [some (.ref (hAR h (hR h 400 v0) (v8).toNatClampNeg)), some (.int v6), some (.int (hI h 4 v5))] [] h (KK d mX4_canFeed mX0_fitsBetween 128 [some (.ref v0), some (.int v1), some (.int v2), some (.int v3), some (.int v4), some (.ref v5), some (.int v6), some (.int v7), some (.int v8), some (.ref (hAR h (hR h 400 v0) (v8).toNatClampNeg)), u10, u11] [] Q)))))))))) : WP (d + 1) mX4_canFeed 88 [some (.ref v0), some (.int v1), some (.int v2), some (.int v3), some (.int v4), some (.ref v5), some (.int v6), some (.int v7), some (.int v8), u9, u10, u11] [] h Q := by
  refine w_iload dX4_canFeed_88 rfl ?_
  refine w_aload_n dX4_canFeed_90 rfl ?_
  obtain ⟨g1, k⟩ := k
  refine w_getI dX4_canFeed_91 f_4_21 t_4_2 g1 ?_
  refine w_ic_ge (pc' := 214) dX4_canFeed_94 rfl rfl ⟨fun c => ?_, fun c => ?_⟩
  · replace k := k.1 c
    refine w_iconst dX4_canFeed_214 i1_0 ?_
    exact w_ireturn dX4_canFeed_215 rfl k
  · replace k := k.2 c
    refine w_aload_n dX4_canFeed_97 rfl ?_
    refine w_getR dX4_canFeed_98 f_4_11 t_4_0 g1 ?_
    refine w_iload dX4_canFeed_101 rfl ?_
    obtain ⟨g2, k⟩ := k
    obtain ⟨g3, k⟩ := k
    refine w_aaload dX4_canFeed_103 rfl g3 g2.1 g2.2 ?_
    refine w_astore (lo' := [some (.ref v0), some (.int v1), some (.int v2), some (.int v3), some (.int v4), some (.ref v5), some (.int v6), some (.int v7), some (.int v8), some (.ref (hAR h (hR h 400 v0) (v8).toNatClampNeg)), u10, u11]) dX4_canFeed_104 (ltQ rfl) rfl ?_
    refine w_aload dX4_canFeed_106 rfl ?_
    obtain ⟨g4, k⟩ := k
    refine w_getI dX4_canFeed_108 f_4_77 t_0_3 g4 ?_
    refine w_aload dX4_canFeed_111 rfl ?_
    obtain ⟨g5, k⟩ := k
    refine w_getI dX4_canFeed_113 f_4_77 t_0_3 g5 ?_
    refine w_ic_ne (pc' := 138) dX4_canFeed_116 rfl rfl ⟨fun c => ?_, fun c => ?_⟩
    · replace k := k.1 c
      refine w_iconst dX4_canFeed_138 i1_0 ?_
      refine w_istore (lo' := [some (.ref v0), some (.int v1), some (.int v2), some (.int v3), some (.int v4), some (.ref v5), some (.int v6), some (.int v7), some (.int v8), some (.ref (hAR h (hR h 400 v0) (v8).toNatClampNeg)), some (.int (0 : Int32)), u11]) dX4_canFeed_139 (ltQ rfl) rfl ?_
      refine w_iload dX4_canFeed_141 rfl ?_
      refine w_if_eq (pc' := 208) dX4_canFeed_143 rfl rfl ⟨fun c => ?_, fun c => ?_⟩
      · replace k := k.1 c
        refine w_iinc (lo' := [some (.ref v0), some (.int v1), some (.int v2), some (.int v3), some (.int v4), some (.ref v5), some (.int v6), some (.int v7), some (.int (v8 + (1 : Int32))), some (.ref (hAR h (hR h 400 v0) (v8).toNatClampNeg)), some (.int (0 : Int32)), u11]) dX4_canFeed_208 rfl i1_1 rfl ?_
        refine w_goto (pc' := 88) dX4_canFeed_211 rfl rfl ?_
        exact k
      · replace k := k.2 c
        refine w_iload_n dX4_canFeed_146 rfl ?_
        refine w_iload dX4_canFeed_147 rfl ?_
        refine w_ishr dX4_canFeed_149 ?_
        refine w_iconst dX4_canFeed_150 i1_1 ?_
        refine w_iand dX4_canFeed_151 ?_
        refine w_if_ne (pc' := 208) dX4_canFeed_152 rfl rfl ⟨fun c => ?_, fun c => ?_⟩
        · replace k := k.1 c
          refine w_iinc (lo' := [some (.ref v0), some (.int v1), some (.int v2), some (.int v3), some (.int v4), some (.ref v5), some (.int v6), some (.int v7), some (.int (v8 + (1 : Int32))), some (.ref (hAR h (hR h 400 v0) (v8).toNatClampNeg)), some (.int (0 : Int32)), u11]) dX4_canFeed_208 rfl i1_1 rfl ?_
          refine w_goto (pc' := 88) dX4_canFeed_211 rfl rfl ?_
          exact k
        · replace k := k.2 c
          refine w_iload dX4_canFeed_155 rfl ?_
          refine w_aload_n dX4_canFeed_157 rfl ?_
          refine w_aload dX4_canFeed_158 rfl ?_
          refine w_iload dX4_canFeed_160 rfl ?_
          refine w_aload dX4_canFeed_162 rfl ?_
          refine w_getI dX4_canFeed_164 f_4_70 t_0_4 g5 ?_
          obtain ⟨g6, k⟩ := k
          exact w_virt (as1 := [.int (hI h 4 v5), .int v6, .ref (hAR h (hR h 400 v0) (v8).toNatClampNeg), .ref v0]) (as2 := [.ref v0, .ref (hAR h (hR h 400 v0) (v8).toNatClampNeg), .int v6, .int (hI h 4 v5)]) (rest := [.int v4]) (lo2 := [some (.ref v0), some (.ref (hAR h (hR h 400 v0) (v8).toNatClampNeg)), some (.int v6), some (.int (hI h 4 v5)), none, none]) dX4_canFeed_167 c_4_84 rfl rfl rfl (Nat.le_of_ble_eq_true rfl) (Nat.le_of_ble_eq_true rfl) rfl (Nat.le_of_ble_eq_true rfl) rfl rfl g6 g1 k
    · replace k := k.2 c
      refine w_aload dX4_canFeed_119 rfl ?_
      refine w_iload dX4_canFeed_121 rfl ?_
      refine w_aload dX4_canFeed_123 rfl ?_
      refine w_getI dX4_canFeed_125 f_4_70 t_0_4 g5 ?_
      obtain ⟨g7, k⟩ := k
      exact w_virt (as1 := [.int (hI h 4 v5), .int v6, .ref (hAR h (hR h 400 v0) (v8).toNatClampNeg)]) (as2 := [.ref (hAR h (hR h 400 v0) (v8).toNatClampNeg), .int v6, .int (hI h 4 v5)]) (rest := []) (lo2 := [some (.ref (hAR h (hR h 400 v0) (v8).toNatClampNeg)), some (.int v6), some (.int (hI h 4 v5))]) dX4_canFeed_128 c_4_80 rfl rfl rfl (Nat.le_of_ble_eq_true rfl) (Nat.le_of_ble_eq_true rfl) rfl (Nat.le_of_ble_eq_true rfl) rfl rfl g7 g4 k
theorem bX4_canFeed_131 {d : Nat} {h : HP} {Q : Out → HP → Prop} {v0 : Nat} {v1 : Int32} {v2 : Int32} {v3 : Int32} {v4 : Int32} {v5 : Nat} {v6 : Int32} {v7 : Int32} {v8 : Int32} {v9 : Nat} {u10 : Option Value} {u11 : Option Value} {s0 : Int32} (k : ((s0 = 0) → (((0 : Int32) = 0) → WP (d + 1) mX4_canFeed 88 [some (.ref v0), some (.int v1), some (.int v2), some (.int v3), some (.int v4), some (.ref v5), some (.int v6), some (.int v7), some (.int (v8 + (1 : Int32))), some (.ref v9), some (.int (0 : Int32)), u11] [] h Q) ∧ ((¬ ((0 : Int32) = 0)) → ((¬ ((v3 >>> (v8 &&& 31)) &&& (1 : Int32)) = 0) → WP (d + 1) mX4_canFeed 88 [some (.ref v0), some (.int v1), some (.int v2), some (.int v3), some (.int v4), some (.ref v5), some (.int v6), some (.int v7), some (.int (v8 + (1 : Int32))), some (.ref v9), some (.int (0 : Int32)), u11] [] h Q) ∧ ((¬ (¬ ((v3 >>> (v8 &&& 31)) &&& (1 : Int32)) = 0)) → (hK h v5 = 0) ∧ ((1 < v0) ∧ ((hK h v0 = 4) ∧ (WP d mX4_writesAheadOf 0 [some (.ref v0), some (.ref v9), some (.int v6), some (.int (hI h 4 v5)), none, none] [] h (KK d mX4_canFeed mX4_writesAheadOf 167 [some (.ref v0), some (.int v1), some (.int v2), some (.int v3), some (.int v4), some (.ref v5), some (.int v6), some (.int v7), some (.int v8), some (.ref v9), some (.int (0 : Int32)), u11] [.int v4] Q))))))) ∧ ((¬ (s0 = 0)) → (((1 : Int32) = 0) → WP (d + 1) mX4_canFeed 88 [some (.ref v0), some (.int v1), some (.int v2), some (.int v3), some (.int v4), some (.ref v5), some (.int v6), some (.int v7), some (.int (v8 + (1 : Int32))), some (.ref v9), some (.int (1 : Int32)), u11] [] h Q) ∧ ((¬ ((1 : Int32) = 0)) → ((¬ ((v3 >>> (v8 &&& 31)) &&& (1 : Int32)) = 0) → WP (d + 1) mX4_canFeed 88 [some (.ref v0), some (.int v1), some (.int v2), some (.int v3), some (.int v4), some (.ref v5), some (.int v6), some (.int v7), some (.int (v8 + (1 : Int32))), some (.ref v9), some (.int (1 : Int32)), u11] [] h Q) ∧ ((¬ (¬ ((v3 >>> (v8 &&& 31)) &&& (1 : Int32)) = 0)) → (hK h v5 = 0) ∧ ((1 < v0) ∧ ((hK h v0 = 4) ∧ (WP d mX4_writesAheadOf 0 [some (.ref v0), some (.ref v9), some (.int v6), some (.int (hI h 4 v5)), none, none] [] h (KK d mX4_canFeed mX4_writesAheadOf 167 [some (.ref v0), some (.int v1), some (.int v2), some (.int v3), some (.int v4), some (.ref v5), some (.int v6), some (.int v7), some (.int v8), some (.ref v9), some (.int (1 : Int32)), u11] [.int v4] Q)))))))) : WP (d + 1) mX4_canFeed 131 [some (.ref v0), some (.int v1), some (.int v2), some (.int v3), some (.int v4), some (.ref v5), some (.int v6), some (.int v7), some (.int v8), some (.ref v9), u10, u11] [.int s0] h Q := by
  refine w_if_eq (pc' := 138) dX4_canFeed_131 rfl rfl ⟨fun c => ?_, fun c => ?_⟩
  · replace k := k.1 c
    refine w_iconst dX4_canFeed_138 i1_0 ?_
    refine w_istore (lo' := [some (.ref v0), some (.int v1), some (.int v2), some (.int v3), some (.int v4), some (.ref v5), some (.int v6), some (.int v7), some (.int v8), some (.ref v9), some (.int (0 : Int32)), u11]) dX4_canFeed_139 (ltQ rfl) rfl ?_
    refine w_iload dX4_canFeed_141 rfl ?_
    refine w_if_eq (pc' := 208) dX4_canFeed_143 rfl rfl ⟨fun c => ?_, fun c => ?_⟩
    · replace k := k.1 c
      refine w_iinc (lo' := [some (.ref v0), some (.int v1), some (.int v2), some (.int v3), some (.int v4), some (.ref v5), some (.int v6), some (.int v7), some (.int (v8 + (1 : Int32))), some (.ref v9), some (.int (0 : Int32)), u11]) dX4_canFeed_208 rfl i1_1 rfl ?_
      refine w_goto (pc' := 88) dX4_canFeed_211 rfl rfl ?_
      exact k
    · replace k := k.2 c
      refine w_iload_n dX4_canFeed_146 rfl ?_
      refine w_iload dX4_canFeed_147 rfl ?_
      refine w_ishr dX4_canFeed_149 ?_
      refine w_iconst dX4_canFeed_150 i1_1 ?_
      refine w_iand dX4_canFeed_151 ?_
      refine w_if_ne (pc' := 208) dX4_canFeed_152 rfl rfl ⟨fun c => ?_, fun c => ?_⟩
      · replace k := k.1 c
        refine w_iinc (lo' := [some (.ref v0), some (.int v1), some (.int v2), some (.int v3), some (.int v4), some (.ref v5), some (.int v6), some (.int v7), some (.int (v8 + (1 : Int32))), some (.ref v9), some (.int (0 : Int32)), u11]) dX4_canFeed_208 rfl i1_1 rfl ?_
        refine w_goto (pc' := 88) dX4_canFeed_211 rfl rfl ?_
        exact k
      · replace k := k.2 c
        refine w_iload dX4_canFeed_155 rfl ?_
        refine w_aload_n dX4_canFeed_157 rfl ?_
        refine w_aload dX4_canFeed_158 rfl ?_
        refine w_iload dX4_canFeed_160 rfl ?_
        refine w_aload dX4_canFeed_162 rfl ?_
        obtain ⟨g1, k⟩ := k
        refine w_getI dX4_canFeed_164 f_4_70 t_0_4 g1 ?_
        obtain ⟨g2, k⟩ := k
        obtain ⟨g3, k⟩ := k
        exact w_virt (as1 := [.int (hI h 4 v5), .int v6, .ref v9, .ref v0]) (as2 := [.ref v0, .ref v9, .int v6, .int (hI h 4 v5)]) (rest := [.int v4]) (lo2 := [some (.ref v0), some (.ref v9), some (.int v6), some (.int (hI h 4 v5)), none, none]) dX4_canFeed_167 c_4_84 rfl rfl rfl (Nat.le_of_ble_eq_true rfl) (Nat.le_of_ble_eq_true rfl) rfl (Nat.le_of_ble_eq_true rfl) rfl rfl g2 g3 k
  · replace k := k.2 c
    refine w_iconst dX4_canFeed_134 i1_1 ?_
    refine w_goto (pc' := 139) dX4_canFeed_135 rfl rfl ?_
    refine w_istore (lo' := [some (.ref v0), some (.int v1), some (.int v2), some (.int v3), some (.int v4), some (.ref v5), some (.int v6), some (.int v7), some (.int v8), some (.ref v9), some (.int (1 : Int32)), u11]) dX4_canFeed_139 (ltQ rfl) rfl ?_
    refine w_iload dX4_canFeed_141 rfl ?_
    refine w_if_eq (pc' := 208) dX4_canFeed_143 rfl rfl ⟨fun c => ?_, fun c => ?_⟩
    · replace k := k.1 c
      refine w_iinc (lo' := [some (.ref v0), some (.int v1), some (.int v2), some (.int v3), some (.int v4), some (.ref v5), some (.int v6), some (.int v7), some (.int (v8 + (1 : Int32))), some (.ref v9), some (.int (1 : Int32)), u11]) dX4_canFeed_208 rfl i1_1 rfl ?_
      refine w_goto (pc' := 88) dX4_canFeed_211 rfl rfl ?_
      exact k
    · replace k := k.2 c
      refine w_iload_n dX4_canFeed_146 rfl ?_
      refine w_iload dX4_canFeed_147 rfl ?_
      refine w_ishr dX4_canFeed_149 ?_
      refine w_iconst dX4_canFeed_150 i1_1 ?_
      refine w_iand dX4_canFeed_151 ?_
      refine w_if_ne (pc' := 208) dX4_canFeed_152 rfl rfl ⟨fun c => ?_, fun c => ?_⟩
      · replace k := k.1 c
        refine w_iinc (lo' := [some (.ref v0), some (.int v1), some (.int v2), some (.int v3), some (.int v4), some (.ref v5), some (.int v6), some (.int v7), some (.int (v8 + (1 : Int32))), some (.ref v9), some (.int (1 : Int32)), u11]) dX4_canFeed_208 rfl i1_1 rfl ?_
        refine w_goto (pc' := 88) dX4_canFeed_211 rfl rfl ?_
        exact k
      · replace k := k.2 c
        refine w_iload dX4_canFeed_155 rfl ?_
        refine w_aload_n dX4_canFeed_157 rfl ?_
        refine w_aload dX4_canFeed_158 rfl ?_
        refine w_iload dX4_canFeed_160 rfl ?_
        refine w_aload dX4_canFeed_162 rfl ?_
        obtain ⟨g4, k⟩ := k
        refine w_getI dX4_canFeed_164 f_4_70 t_0_4 g4 ?_
        obtain ⟨g5, k⟩ := k
        obtain ⟨g6, k⟩ := k
        exact w_virt (as1 := [.int (hI h 4 v5), .int v6, .ref v9, .ref v0]) (as2 := [.ref v0, .ref v9, .int v6, .int (hI h 4 v5)]) (rest := [.int v4]) (lo2 := [some (.ref v0), some (.ref v9), some (.int v6), some (.int (hI h 4 v5)), none, none]) dX4_canFeed_167 c_4_84 rfl rfl rfl (Nat.le_of_ble_eq_true rfl) (Nat.le_of_ble_eq_true rfl) rfl (Nat.le_of_ble_eq_true rfl) rfl rfl g5 g6 k
theorem bX4_canFeed_170 {d : Nat} {h : HP} {Q : Out → HP → Prop} {v0 : Nat} {v1 : Int32} {v2 : Int32} {v3 : Int32} {v4 : Int32} {v5 : Nat} {v6 : Int32} {v7 : Int32} {v8 : Int32} {v9 : Nat} {v10 : Int32} {u11 : Option Value} {s0 : Int32} {s1 : Int32} (k : ((¬ (v7 &&& ((s1 ||| s0) ^^^ (-1 : Int32))) = 0) → WP (d + 1) mX4_canFeed 88 [some (.ref v0), some (.int v1), some (.int v2), some (.int v3), some (.int v4), some (.ref v5), some (.int v6), some (.int v7), some (.int (v8 + (1 : Int32))), some (.ref v9), some (.int v10), some (.int (s1 ||| s0))] [] h Q) ∧ ((¬ (¬ (v7 &&& ((s1 ||| s0) ^^^ (-1 : Int32))) = 0)) → (hK h v5 = 0) ∧ (WP d mX4_canFeed 0 [some (.ref v0), some (.int (v1 + (1 : Int32))), some (.int (hI h 3 v5)), some (.int (v3 ||| ((1 : Int32) <<< (v8 &&& 31)))), some (.int (s1 ||| s0)), none, none, none, none, none, none, none] [] h (KK d mX4_canFeed mX4_canFeed 200 [some (.ref v0), some (.int v1), some (.int v2), some (.int v3), some (.int v4), some (.ref v5), some (.int v6), some (.int v7), some (.int v8), some (.ref v9), some (.int v10), some (.int (s1 ||| s0))] [] Q)))) : WP (d + 1) mX4_canFeed 170 [some (.ref v0), some (.int v1), some (.int v2), some (.int v3), some (.int v4), some (.ref v5), some (.int v6), some (.int v7), some (.int v8), some (.ref v9), some (.int v10), u11] [.int s0, .int s1] h Q := by
  refine w_ior dX4_canFeed_170 ?_
  refine w_istore (lo' := [some (.ref v0), some (.int v1), some (.int v2), some (.int v3), some (.int v4), some (.ref v5), some (.int v6), some (.int v7), some (.int v8), some (.ref v9), some (.int v10), some (.int (s1 ||| s0))]) dX4_canFeed_171 (ltQ rfl) rfl ?_
  refine w_iload dX4_canFeed_173 rfl ?_
  refine w_iload dX4_canFeed_175 rfl ?_
  refine w_iconst dX4_canFeed_177 i1_m1 ?_
  refine w_ixor dX4_canFeed_178 ?_
  refine w_iand dX4_canFeed_179 ?_
  refine w_if_ne (pc' := 208) dX4_canFeed_180 rfl rfl ⟨fun c => ?_, fun c => ?_⟩
  · replace k := k.1 c
    refine w_iinc (lo' := [some (.ref v0), some (.int v1), some (.int v2), some (.int v3), some (.int v4), some (.ref v5), some (.int v6), some (.int v7), some (.int (v8 + (1 : Int32))), some (.ref v9), some (.int v10), some (.int (s1 ||| s0))]) dX4_canFeed_208 rfl i1_1 rfl ?_
    refine w_goto (pc' := 88) dX4_canFeed_211 rfl rfl ?_
    exact k
  · replace k := k.2 c
    refine w_aload_n dX4_canFeed_183 rfl ?_
    refine w_iload_n dX4_canFeed_184 rfl ?_
    refine w_iconst dX4_canFeed_185 i1_1 ?_
    refine w_iadd dX4_canFeed_186 ?_
    refine w_aload dX4_canFeed_187 rfl ?_
    obtain ⟨g1, k⟩ := k
    refine w_getI dX4_canFeed_189 f_4_77 t_0_3 g1 ?_
    refine w_iload_n dX4_canFeed_192 rfl ?_
    refine w_iconst dX4_canFeed_193 i1_1 ?_
    refine w_iload dX4_canFeed_194 rfl ?_
    refine w_ishl dX4_canFeed_196 ?_
    refine w_ior dX4_canFeed_197 ?_
    refine w_iload dX4_canFeed_198 rfl ?_
    exact w_stat (as1 := [.int (s1 ||| s0), .int (v3 ||| ((1 : Int32) <<< (v8 &&& 31))), .int (hI h 3 v5), .int (v1 + (1 : Int32)), .ref v0]) (as2 := [.ref v0, .int (v1 + (1 : Int32)), .int (hI h 3 v5), .int (v3 ||| ((1 : Int32) <<< (v8 &&& 31))), .int (s1 ||| s0)]) (rest := []) (lo2 := [some (.ref v0), some (.int (v1 + (1 : Int32))), some (.int (hI h 3 v5)), some (.int (v3 ||| ((1 : Int32) <<< (v8 &&& 31)))), some (.int (s1 ||| s0)), none, none, none, none, none, none, none]) dX4_canFeed_200 c_4_66 rfl rfl rfl (Nat.le_of_ble_eq_true rfl) (Nat.le_of_ble_eq_true rfl) rfl (Nat.le_of_ble_eq_true rfl) rfl k
theorem bX4_canFeed_203 {d : Nat} {h : HP} {Q : Out → HP → Prop} {v0 : Nat} {v1 : Int32} {v2 : Int32} {v3 : Int32} {v4 : Int32} {v5 : Nat} {v6 : Int32} {v7 : Int32} {v8 : Int32} {v9 : Nat} {v10 : Int32} {v11 : Int32} {s0 : Int32} (k : ((s0 = 0) → WP d mX4_canFeed 88 [some (.ref v0), some (.int v1), some (.int v2), some (.int v3), some (.int v4), some (.ref v5), some (.int v6), some (.int v7), some (.int (v8 + (1 : Int32))), some (.ref v9), some (.int v10), some (.int v11)] [] h Q) ∧ ((¬ (s0 = 0)) → Q (.inl (some (.int (1 : Int32)))) h)) : WP d mX4_canFeed 203 [some (.ref v0), some (.int v1), some (.int v2), some (.int v3), some (.int v4), some (.ref v5), some (.int v6), some (.int v7), some (.int v8), some (.ref v9), some (.int v10), some (.int v11)] [.int s0] h Q := by
  refine w_if_eq (pc' := 208) dX4_canFeed_203 rfl rfl ⟨fun c => ?_, fun c => ?_⟩
  · replace k := k.1 c
    refine w_iinc (lo' := [some (.ref v0), some (.int v1), some (.int v2), some (.int v3), some (.int v4), some (.ref v5), some (.int v6), some (.int v7), some (.int (v8 + (1 : Int32))), some (.ref v9), some (.int v10), some (.int v11)]) dX4_canFeed_208 rfl i1_1 rfl ?_
    refine w_goto (pc' := 88) dX4_canFeed_211 rfl rfl ?_
    exact k
  · replace k := k.2 c
    refine w_iconst dX4_canFeed_206 i1_1 ?_
    exact w_ireturn dX4_canFeed_207 rfl k
theorem bX4_writesDueAhead_0 {d : Nat} {h : HP} {Q : Out → HP → Prop} {v0 : Nat} {v1 : Int32} {u2 : Option Value} {u3 : Option Value} (k : WP d mX4_writesDueAhead 4 [some (.ref v0), some (.int v1), some (.int (0 : Int32)), some (.int (0 : Int32))] [] h Q) : WP d mX4_writesDueAhead 0 [some (.ref v0), some (.int v1), u2, u3] [] h Q := by
  refine w_iconst dX4_writesDueAhead_0 i1_0 ?_
  refine w_istore_n (lo' := [some (.ref v0), some (.int v1), some (.int (0 : Int32)), u3]) dX4_writesDueAhead_1 (ltQ rfl) rfl ?_
  refine w_iconst dX4_writesDueAhead_2 i1_0 ?_
  refine w_istore_n (lo' := [some (.ref v0), some (.int v1), some (.int (0 : Int32)), some (.int (0 : Int32))]) dX4_writesDueAhead_3 (ltQ rfl) rfl ?_
  exact k
theorem bX4_writesDueAhead_4 {d : Nat} {h : HP} {Q : Out → HP → Prop} {v0 : Nat} {v1 : Int32} {v2 : Int32} {v3 : Int32} (k : (hK h v0 = 4) ∧ ((((hI h 402 v0) ≤ v3) → Q (.inl (some (.int v2))) h) ∧ ((¬ ((hI h 402 v0) ≤ v3)) → (25 ≤ hK h (hR h 400 v0) ∧ hK h (hR h 400 v0) ≤ 29) ∧ ((inA h (hR h 400 v0) v3 = true) ∧ ((hK h (hAR h (hR h 400 v0) (v3).toNatClampNeg) = 0) ∧ ((((hI h 0 (hAR h (hR h 400 v0) (v3).toNatClampNeg)) = 0) → WP (d + 1) mX4_writesDueAhead 4 [some (.ref v0), some (.int v1), some (.int v2), some (.int (v3 + (1 : Int32)))] [] h Q) ∧ ((¬ ((hI h 0 (hAR h (hR h 400 v0) (v3).toNatClampNeg)) = 0)) → (1 < (hAR h (hR h 400 v0) (v3).toNatClampNeg)) ∧ (WP d mX0_isAnsweredAhead 0 [some (.ref (hAR h (hR h 400 v0) (v3).toNatClampNeg)), some (.int v1)] [] h (KK d mX4_writesDueAhead mX0_isAnsweredAhead 31 [some (.ref v0), some (.int v1), some (.int v2), some (.int v3)] [] Q))))))))) : WP (d + 1) mX4_writesDueAhead 4 [some (.ref v0), some (.int v1), some (.int v2), some (.int v3)] [] h Q := by
  refine w_iload_n dX4_writesDueAhead_4 rfl ?_
  refine w_aload_n dX4_writesDueAhead_5 rfl ?_
  obtain ⟨g1, k⟩ := k
  refine w_getI dX4_writesDueAhead_6 f_4_21 t_4_2 g1 ?_
  refine w_ic_ge (pc' := 49) dX4_writesDueAhead_9 rfl rfl ⟨fun c => ?_, fun c => ?_⟩
  · replace k := k.1 c
    refine w_iload_n dX4_writesDueAhead_49 rfl ?_
    exact w_ireturn dX4_writesDueAhead_50 rfl k
  · replace k := k.2 c
    refine w_aload_n dX4_writesDueAhead_12 rfl ?_
    refine w_getR dX4_writesDueAhead_13 f_4_11 t_4_0 g1 ?_
    refine w_iload_n dX4_writesDueAhead_16 rfl ?_
    obtain ⟨g2, k⟩ := k
    obtain ⟨g3, k⟩ := k
    refine w_aaload dX4_writesDueAhead_17 rfl g3 g2.1 g2.2 ?_
    obtain ⟨g4, k⟩ := k
    refine w_getZ dX4_writesDueAhead_18 f_4_31 t_0_0 g4 ?_
    refine w_if_eq (pc' := 43) dX4_writesDueAhead_21 rfl rfl ⟨fun c => ?_, fun c => ?_⟩
    · replace k := k.1 c
      refine w_iinc (lo' := [some (.ref v0), some (.int v1), some (.int v2), some (.int (v3 + (1 : Int32)))]) dX4_writesDueAhead_43 rfl i1_1 rfl ?_
      refine w_goto (pc' := 4) dX4_writesDueAhead_46 rfl rfl ?_
      exact k
    · replace k := k.2 c
      refine w_aload_n dX4_writesDueAhead_24 rfl ?_
      refine w_getR dX4_writesDueAhead_25 f_4_11 t_4_0 g1 ?_
      refine w_iload_n dX4_writesDueAhead_28 rfl ?_
      refine w_aaload dX4_writesDueAhead_29 rfl g3 g2.1 g2.2 ?_
      refine w_iload_n dX4_writesDueAhead_30 rfl ?_
      obtain ⟨g5, k⟩ := k
      exact w_virt (as1 := [.int v1, .ref (hAR h (hR h 400 v0) (v3).toNatClampNeg)]) (as2 := [.ref (hAR h (hR h 400 v0) (v3).toNatClampNeg), .int v1]) (rest := []) (lo2 := [some (.ref (hAR h (hR h 400 v0) (v3).toNatClampNeg)), some (.int v1)]) dX4_writesDueAhead_31 c_4_88 rfl rfl rfl (Nat.le_of_ble_eq_true rfl) (Nat.le_of_ble_eq_true rfl) rfl (Nat.le_of_ble_eq_true rfl) rfl rfl g5 g4 k
theorem bX4_writesDueAhead_34 {d : Nat} {h : HP} {Q : Out → HP → Prop} {v0 : Nat} {v1 : Int32} {v2 : Int32} {v3 : Int32} {s0 : Int32} (k : ((s0 = 0) → WP d mX4_writesDueAhead 4 [some (.ref v0), some (.int v1), some (.int v2), some (.int (v3 + (1 : Int32)))] [] h Q) ∧ ((¬ (s0 = 0)) → WP d mX4_writesDueAhead 4 [some (.ref v0), some (.int v1), some (.int (v2 ||| ((1 : Int32) <<< (v3 &&& 31)))), some (.int (v3 + (1 : Int32)))] [] h Q)) : WP d mX4_writesDueAhead 34 [some (.ref v0), some (.int v1), some (.int v2), some (.int v3)] [.int s0] h Q := by
  refine w_if_eq (pc' := 43) dX4_writesDueAhead_34 rfl rfl ⟨fun c => ?_, fun c => ?_⟩
  · replace k := k.1 c
    refine w_iinc (lo' := [some (.ref v0), some (.int v1), some (.int v2), some (.int (v3 + (1 : Int32)))]) dX4_writesDueAhead_43 rfl i1_1 rfl ?_
    refine w_goto (pc' := 4) dX4_writesDueAhead_46 rfl rfl ?_
    exact k
  · replace k := k.2 c
    refine w_iload_n dX4_writesDueAhead_37 rfl ?_
    refine w_iconst dX4_writesDueAhead_38 i1_1 ?_
    refine w_iload_n dX4_writesDueAhead_39 rfl ?_
    refine w_ishl dX4_writesDueAhead_40 ?_
    refine w_ior dX4_writesDueAhead_41 ?_
    refine w_istore_n (lo' := [some (.ref v0), some (.int v1), some (.int (v2 ||| ((1 : Int32) <<< (v3 &&& 31)))), some (.int v3)]) dX4_writesDueAhead_42 (ltQ rfl) rfl ?_
    refine w_iinc (lo' := [some (.ref v0), some (.int v1), some (.int (v2 ||| ((1 : Int32) <<< (v3 &&& 31)))), some (.int (v3 + (1 : Int32)))]) dX4_writesDueAhead_43 rfl i1_1 rfl ?_
    refine w_goto (pc' := 4) dX4_writesDueAhead_46 rfl rfl ?_
    exact k
theorem bX4_writesAheadOf_0 {d : Nat} {h : HP} {Q : Out → HP → Prop} {v0 : Nat} {v1 : Nat} {v2 : Int32} {v3 : Int32} {u4 : Option Value} {u5 : Option Value} (k : WP d mX4_writesAheadOf 6 [some (.ref v0), some (.ref v1), some (.int v2), some (.int v3), some (.int (0 : Int32)), some (.int (0 : Int32))] [] h Q) : WP d mX4_writesAheadOf 0 [some (.ref v0), some (.ref v1), some (.int v2), some (.int v3), u4, u5] [] h Q := by
  refine w_iconst dX4_writesAheadOf_0 i1_0 ?_
  refine w_istore (lo' := [some (.ref v0), some (.ref v1), some (.int v2), some (.int v3), some (.int (0 : Int32)), u5]) dX4_writesAheadOf_1 (ltQ rfl) rfl ?_
  refine w_iconst dX4_writesAheadOf_3 i1_0 ?_
  refine w_istore (lo' := [some (.ref v0), some (.ref v1), some (.int v2), some (.int v3), some (.int (0 : Int32)), some (.int (0 : Int32))]) dX4_writesAheadOf_4 (ltQ rfl) rfl ?_
  exact k
theorem bX4_writesAheadOf_6 {d : Nat} {h : HP} {Q : Out → HP → Prop} {v0 : Nat} {v1 : Nat} {v2 : Int32} {v3 : Int32} {v4 : Int32} {v5 : Int32} (k : (hK h v0 = 4) ∧ ((((hI h 402 v0) ≤ v5) → Q (.inl (some (.int v4))) h) ∧ ((¬ ((hI h 402 v0) ≤ v5)) → (25 ≤ hK h (hR h 400 v0) ∧ hK h (hR h 400 v0) ≤ 29) ∧ ((inA h (hR h 400 v0) v5 = true) ∧ ((1 < (hAR h (hR h 400 v0) (v5).toNatClampNeg)) ∧ ((hK h (hAR h (hR h 400 v0) (v5).toNatClampNeg) = 0) ∧ (WP d mX0_fitsBetween 0 [some (.ref (hAR h (hR h 400 v0) (v5).toNatClampNeg)), some (.int v2), some (.int v3)] [] h (KK d mX4_writesAheadOf mX0_fitsBetween 24 [some (.ref v0), some (.ref v1), some (.int v2), some (.int v3), some (.int v4), some (.int v5)] [] Q)))))))) : WP (d + 1) mX4_writesAheadOf 6 [some (.ref v0), some (.ref v1), some (.int v2), some (.int v3), some (.int v4), some (.int v5)] [] h Q := by
  refine w_iload dX4_writesAheadOf_6 rfl ?_
  refine w_aload_n dX4_writesAheadOf_8 rfl ?_
  obtain ⟨g1, k⟩ := k
  refine w_getI dX4_writesAheadOf_9 f_4_21 t_4_2 g1 ?_
  refine w_ic_ge (pc' := 62) dX4_writesAheadOf_12 rfl rfl ⟨fun c => ?_, fun c => ?_⟩
  · replace k := k.1 c
    refine w_iload dX4_writesAheadOf_62 rfl ?_
    exact w_ireturn dX4_writesAheadOf_64 rfl k
  · replace k := k.2 c
    refine w_aload_n dX4_writesAheadOf_15 rfl ?_
    refine w_getR dX4_writesAheadOf_16 f_4_11 t_4_0 g1 ?_
    refine w_iload dX4_writesAheadOf_19 rfl ?_
    obtain ⟨g2, k⟩ := k
    obtain ⟨g3, k⟩ := k
    refine w_aaload dX4_writesAheadOf_21 rfl g3 g2.1 g2.2 ?_
    refine w_iload_n dX4_writesAheadOf_22 rfl ?_
    refine w_iload_n dX4_writesAheadOf_23 rfl ?_
    obtain ⟨g4, k⟩ := k
    obtain ⟨g5, k⟩ := k
    exact w_virt (as1 := [.int v3, .int v2, .ref (hAR h (hR h 400 v0) (v5).toNatClampNeg)]) (as2 := [.ref (hAR h (hR h 400 v0) (v5).toNatClampNeg), .int v2, .int v3]) (rest := []) (lo2 := [some (.ref (hAR h (hR h 400 v0) (v5).toNatClampNeg)), some (.int v2), some (.int v3)]) dX4_writesAheadOf_24 c_4_80 rfl rfl rfl (Nat.le_of_ble_eq_true rfl) (Nat.le_of_ble_eq_true rfl) rfl (Nat.le_of_ble_eq_true rfl) rfl rfl g4 g5 k
theorem bX4_writesAheadOf_27 {d : Nat} {h : HP} {Q : Out → HP → Prop} {v0 : Nat} {v1 : Nat} {v2 : Int32} {v3 : Int32} {v4 : Int32} {v5 : Int32} {s0 : Int32} (k : ((s0 = 0) → WP (d + 1) mX4_writesAheadOf 6 [some (.ref v0), some (.ref v1), some (.int v2), some (.int v3), some (.int v4), some (.int (v5 + (1 : Int32)))] [] h Q) ∧ ((¬ (s0 = 0)) → (hK h v0 = 4) ∧ ((25 ≤ hK h (hR h 400 v0) ∧ hK h (hR h 400 v0) ≤ 29) ∧ ((inA h (hR h 400 v0) v5 = true) ∧ ((hK h (hAR h (hR h 400 v0) (v5).toNatClampNeg) = 0) ∧ ((1 < v1) ∧ ((hK h v1 = 0) ∧ (WP d mX0_isAnsweredAhead 0 [some (.ref v1), some (.int (hI h 4 (hAR h (hR h 400 v0) (v5).toNatClampNeg)))] [] h (KK d mX4_writesAheadOf mX0_isAnsweredAhead 41 [some (.ref v0), some (.ref v1), some (.int v2), some (.int v3), some (.int v4), some (.int v5)] [] Q))))))))) : WP (d + 1) mX4_writesAheadOf 27 [some (.ref v0), some (.ref v1), some (.int v2), some (.int v3), some (.int v4), some (.int v5)] [.int s0] h Q := by
  refine w_if_eq (pc' := 56) dX4_writesAheadOf_27 rfl rfl ⟨fun c => ?_, fun c => ?_⟩
  · replace k := k.1 c
    refine w_iinc (lo' := [some (.ref v0), some (.ref v1), some (.int v2), some (.int v3), some (.int v4), some (.int (v5 + (1 : Int32)))]) dX4_writesAheadOf_56 rfl i1_1 rfl ?_
    refine w_goto (pc' := 6) dX4_writesAheadOf_59 rfl rfl ?_
    exact k
  · replace k := k.2 c
    refine w_aload_n dX4_writesAheadOf_30 rfl ?_
    refine w_aload_n dX4_writesAheadOf_31 rfl ?_
    obtain ⟨g1, k⟩ := k
    refine w_getR dX4_writesAheadOf_32 f_4_11 t_4_0 g1 ?_
    refine w_iload dX4_writesAheadOf_35 rfl ?_
    obtain ⟨g2, k⟩ := k
    obtain ⟨g3, k⟩ := k
    refine w_aaload dX4_writesAheadOf_37 rfl g3 g2.1 g2.2 ?_
    obtain ⟨g4, k⟩ := k
    refine w_getI dX4_writesAheadOf_38 f_4_70 t_0_4 g4 ?_
    obtain ⟨g5, k⟩ := k
    obtain ⟨g6, k⟩ := k
    exact w_virt (as1 := [.int (hI h 4 (hAR h (hR h 400 v0) (v5).toNatClampNeg)), .ref v1]) (as2 := [.ref v1, .int (hI h 4 (hAR h (hR h 400 v0) (v5).toNatClampNeg))]) (rest := []) (lo2 := [some (.ref v1), some (.int (hI h 4 (hAR h (hR h 400 v0) (v5).toNatClampNeg)))]) dX4_writesAheadOf_41 c_4_88 rfl rfl rfl (Nat.le_of_ble_eq_true rfl) (Nat.le_of_ble_eq_true rfl) rfl (Nat.le_of_ble_eq_true rfl) rfl rfl g5 g6 k
theorem bX4_writesAheadOf_44 {d : Nat} {h : HP} {Q : Out → HP → Prop} {v0 : Nat} {v1 : Nat} {v2 : Int32} {v3 : Int32} {v4 : Int32} {v5 : Int32} {s0 : Int32} (k : ((¬ s0 = 0) → WP d mX4_writesAheadOf 6 [some (.ref v0), some (.ref v1), some (.int v2), some (.int v3), some (.int v4), some (.int (v5 + (1 : Int32)))] [] h Q) ∧ ((¬ (¬ s0 = 0)) → WP d mX4_writesAheadOf 6 [some (.ref v0), some (.ref v1), some (.int v2), some (.int v3), some (.int (v4 ||| ((1 : Int32) <<< (v5 &&& 31)))), some (.int (v5 + (1 : Int32)))] [] h Q)) : WP d mX4_writesAheadOf 44 [some (.ref v0), some (.ref v1), some (.int v2), some (.int v3), some (.int v4), some (.int v5)] [.int s0] h Q := by
  refine w_if_ne (pc' := 56) dX4_writesAheadOf_44 rfl rfl ⟨fun c => ?_, fun c => ?_⟩
  · replace k := k.1 c
    refine w_iinc (lo' := [some (.ref v0), some (.ref v1), some (.int v2), some (.int v3), some (.int v4), some (.int (v5 + (1 : Int32)))]) dX4_writesAheadOf_56 rfl i1_1 rfl ?_
    refine w_goto (pc' := 6) dX4_writesAheadOf_59 rfl rfl ?_
    exact k
  · replace k := k.2 c
    refine w_iload dX4_writesAheadOf_47 rfl ?_
    refine w_iconst dX4_writesAheadOf_49 i1_1 ?_
    refine w_iload dX4_writesAheadOf_50 rfl ?_
    refine w_ishl dX4_writesAheadOf_52 ?_
    refine w_ior dX4_writesAheadOf_53 ?_
    refine w_istore (lo' := [some (.ref v0), some (.ref v1), some (.int v2), some (.int v3), some (.int (v4 ||| ((1 : Int32) <<< (v5 &&& 31)))), some (.int v5)]) dX4_writesAheadOf_54 (ltQ rfl) rfl ?_
    refine w_iinc (lo' := [some (.ref v0), some (.ref v1), some (.int v2), some (.int v3), some (.int (v4 ||| ((1 : Int32) <<< (v5 &&& 31)))), some (.int (v5 + (1 : Int32)))]) dX4_writesAheadOf_56 rfl i1_1 rfl ?_
    refine w_goto (pc' := 6) dX4_writesAheadOf_59 rfl rfl ?_
    exact k
theorem bX5_init_0 {d : Nat} {h : HP} {Q : Out → HP → Prop} {v0 : Nat} (k : (1 < v0) ∧ ((hK (nw h 20 5 5) v0 = 5) ∧ ((hK (nw (sR (nw h 20 5 5) 500 v0 (hN h)) 20 5 5) v0 = 5) ∧ ((hK (nw (sR (nw (sR (nw h 20 5 5) 500 v0 (hN h)) 20 5 5) 501 v0 (hN (sR (nw h 20 5 5) 500 v0 (hN h)))) 22 5 5) v0 = 5) ∧ (Q (.inl none) (sR (nw (sR (nw (sR (nw h 20 5 5) 500 v0 (hN h)) 20 5 5) 501 v0 (hN (sR (nw h 20 5 5) 500 v0 (hN h)))) 22 5 5) 503 v0 (hN (sR (nw (sR (nw h 20 5 5) 500 v0 (hN h)) 20 5 5) 501 v0 (hN (sR (nw h 20 5 5) 500 v0 (hN h))))))))))) : WP d mX5_init 0 [some (.ref v0)] [] h Q := by
  refine w_aload_n dX5_init_0 rfl ?_
  obtain ⟨g1, k⟩ := k
  refine w_obj dX5_init_1 c_5_3 (Nat.le_of_ble_eq_true rfl) rfl g1 ?_
  refine w_aload_n dX5_init_4 rfl ?_
  refine w_iconst dX5_init_5 i1_5 ?_
  refine w_nar_int (m := 5) dX5_init_6 (by decide) (by decide) (by decide) ?_
  obtain ⟨g2, k⟩ := k
  refine w_putR dX5_init_8 f_5_9 t_5_0 (pf_in rfl rfl) g2 ?_
  refine w_aload_n dX5_init_11 rfl ?_
  refine w_iconst dX5_init_12 i1_5 ?_
  refine w_nar_int (m := 5) dX5_init_13 (by decide) (by decide) (by decide) ?_
  obtain ⟨g3, k⟩ := k
  refine w_putR dX5_init_15 f_5_15 t_5_1 (pf_in rfl rfl) g3 ?_
  refine w_aload_n dX5_init_18 rfl ?_
  refine w_iconst dX5_init_19 i1_5 ?_
  refine w_nar_float (m := 5) dX5_init_20 (by decide) (by decide) (by decide) ?_
  obtain ⟨g4, k⟩ := k
  refine w_putR dX5_init_22 f_5_18 t_5_3 (pf_in rfl rfl) g4 ?_
  exact w_return dX5_init_25 rfl k
theorem bX5_start_0 {d : Nat} {h : HP} {Q : Out → HP → Prop} {v0 : Nat} {v1 : Int32} {u2 : Option Value} (k : WP d mX5_start 2 [some (.ref v0), some (.int v1), some (.int (0 : Int32))] [] h Q) : WP d mX5_start 0 [some (.ref v0), some (.int v1), u2] [] h Q := by
  refine w_iconst dX5_start_0 i1_0 ?_
  refine w_istore_n (lo' := [some (.ref v0), some (.int v1), some (.int (0 : Int32))]) dX5_start_1 (ltQ rfl) rfl ?_
  exact k
theorem bX5_start_2 {d : Nat} {h : HP} {Q : Out → HP → Prop} {v0 : Nat} {v1 : Int32} {v2 : Int32} (k : (((5 : Int32) ≤ v2) → (hK h v0 = 5) ∧ (Q (.inl none) (sI (sI h 502 v0 (0 : Int32)) 504 v0 (0 : Int32)))) ∧ ((¬ ((5 : Int32) ≤ v2)) → (hK h v0 = 5) ∧ ((hK h (hR h 500 v0) = 20) ∧ ((inA h (hR h 500 v0) v2 = true) ∧ ((hK h (hR h 501 v0) = 20) ∧ ((inA h (hR h 501 v0) v2 = true) ∧ ((hK h (hR h 503 v0) = 22) ∧ ((inA h (hR h 503 v0) v2 = true) ∧ (WP d mX5_start 2 [some (.ref v0), some (.int v1), some (.int (v2 + (1 : Int32)))] [] (sAF (sAI (sAI h (hR h 500 v0) (v2).toNatClampNeg v1) (hR h 501 v0) (v2).toNatClampNeg (0 : Int32)) (hR h 503 v0) (v2).toNatClampNeg FP.fconst0) Q))))))))) : WP d mX5_start 2 [some (.ref v0), some (.int v1), some (.int v2)] [] h Q := by
  refine w_iload_n dX5_start_2 rfl ?_
  refine w_iconst dX5_start_3 i1_5 ?_
  refine w_ic_ge (pc' := 34) dX5_start_4 rfl rfl ⟨fun c => ?_, fun c => ?_⟩
  · replace k := k.1 c
    refine w_aload_n dX5_start_34 rfl ?_
    refine w_iconst dX5_start_35 i1_0 ?_
    obtain ⟨g1, k⟩ := k
    refine w_putI dX5_start_36 f_5_22 t_5_2 (pf_nf n_5_2) g1 ?_
    refine w_aload_n dX5_start_39 rfl ?_
    refine w_iconst dX5_start_40 i1_0 ?_
    refine w_putZ dX5_start_41 f_5_26 t_5_4 (pf_nf n_5_4) g1 rfl ?_
    exact w_return dX5_start_44 rfl k
  · replace k := k.2 c
    refine w_aload_n dX5_start_7 rfl ?_
    obtain ⟨g2, k⟩ := k
    refine w_getR dX5_start_8 f_5_9 t_5_0 g2 ?_
    refine w_iload_n dX5_start_11 rfl ?_
    refine w_iload_n dX5_start_12 rfl ?_
    obtain ⟨g3, k⟩ := k
    obtain ⟨g4, k⟩ := k
    refine w_iastore dX5_start_13 g3 g4 ?_
    refine w_aload_n dX5_start_14 rfl ?_
    refine w_getR dX5_start_15 f_5_15 t_5_1 g2 ?_
    refine w_iload_n dX5_start_18 rfl ?_
    refine w_iconst dX5_start_19 i1_0 ?_
    obtain ⟨g5, k⟩ := k
    obtain ⟨g6, k⟩ := k
    refine w_iastore dX5_start_20 g5 g6 ?_
    refine w_aload_n dX5_start_21 rfl ?_
    refine w_getR dX5_start_22 f_5_18 t_5_3 g2 ?_
    refine w_iload_n dX5_start_25 rfl ?_
    refine w_fconst0 dX5_start_26 ?_
    obtain ⟨g7, k⟩ := k
    obtain ⟨g8, k⟩ := k
    refine w_fastore dX5_start_27 g7 g8 ?_
    refine w_iinc (lo' := [some (.ref v0), some (.int v1), some (.int (v2 + (1 : Int32)))]) dX5_start_28 rfl i1_1 rfl ?_
    refine w_goto (pc' := 2) dX5_start_31 rfl rfl ?_
    exact k
theorem bX5_learnSame_0 {d : Nat} {h : HP} {Q : Out → HP → Prop} {v0 : Nat} {v1 : Int32} {v2 : Int32} (k : (hK h v0 = 5) ∧ ((hK h (hR h 501 v0) = 20) ∧ ((inA h (hR h 501 v0) v1 = true) ∧ (((v2 ≤ (hAI h (hR h 501 v0) (v1).toNatClampNeg)) → Q (.inl none) h) ∧ ((¬ (v2 ≤ (hAI h (hR h 501 v0) (v1).toNatClampNeg))) → (hK h (hR h 500 v0) = 20) ∧ ((inA h (hR h 500 v0) v1 = true) ∧ (Q (.inl none) (sAI (sAI h (hR h 501 v0) (v1).toNatClampNeg v2) (hR h 500 v0) (v1).toNatClampNeg v2)))))))) : WP d mX5_learnSame 0 [some (.ref v0), some (.int v1), some (.int v2)] [] h Q := by
  refine w_iload_n dX5_learnSame_0 rfl ?_
  refine w_aload_n dX5_learnSame_1 rfl ?_
  obtain ⟨g1, k⟩ := k
  refine w_getR dX5_learnSame_2 f_5_15 t_5_1 g1 ?_
  refine w_iload_n dX5_learnSame_5 rfl ?_
  obtain ⟨g2, k⟩ := k
  obtain ⟨g3, k⟩ := k
  refine w_iaload dX5_learnSame_6 g2 g3 ?_
  refine w_ic_le (pc' := 24) dX5_learnSame_7 rfl rfl ⟨fun c => ?_, fun c => ?_⟩
  · replace k := k.1 c
    exact w_return dX5_learnSame_24 rfl k
  · replace k := k.2 c
    refine w_aload_n dX5_learnSame_10 rfl ?_
    refine w_getR dX5_learnSame_11 f_5_15 t_5_1 g1 ?_
    refine w_iload_n dX5_learnSame_14 rfl ?_
    refine w_iload_n dX5_learnSame_15 rfl ?_
    refine w_iastore dX5_learnSame_16 g2 g3 ?_
    refine w_aload_n dX5_learnSame_17 rfl ?_
    refine w_getR dX5_learnSame_18 f_5_9 t_5_0 g1 ?_
    refine w_iload_n dX5_learnSame_21 rfl ?_
    refine w_iload_n dX5_learnSame_22 rfl ?_
    obtain ⟨g4, k⟩ := k
    obtain ⟨g5, k⟩ := k
    refine w_iastore dX5_learnSame_23 g4 g5 ?_
    exact w_return dX5_learnSame_24 rfl k
theorem bX5_learnClock_0 {d : Nat} {h : HP} {Q : Out → HP → Prop} {v0 : Nat} {v1 : Int32} {v2 : UInt32} (k : (hK h v0 = 5) ∧ ((hK h (hR h 503 v0) = 22) ∧ ((inA h (hR h 503 v0) v1 = true) ∧ ((((Op.cmpValue (FP.fcmp v2 (hAF h (hR h 503 v0) (v1).toNatClampNeg)) .l) ≤ 0) → Q (.inl none) (sI h 502 v0 ((hI h 502 v0) ||| ((1 : Int32) <<< (v1 &&& 31))))) ∧ ((¬ ((Op.cmpValue (FP.fcmp v2 (hAF h (hR h 503 v0) (v1).toNatClampNeg)) .l) ≤ 0)) → Q (.inl none) (sI (sAF h (hR h 503 v0) (v1).toNatClampNeg v2) 502 v0 ((hI h 502 v0) ||| ((1 : Int32) <<< (v1 &&& 31))))))))) : WP d mX5_learnClock 0 [some (.ref v0), some (.int v1), some (.float v2)] [] h Q := by
  refine w_fload_n dX5_learnClock_0 rfl ?_
  refine w_aload_n dX5_learnClock_1 rfl ?_
  obtain ⟨g1, k⟩ := k
  refine w_getR dX5_learnClock_2 f_5_18 t_5_3 g1 ?_
  refine w_iload_n dX5_learnClock_5 rfl ?_
  obtain ⟨g2, k⟩ := k
  obtain ⟨g3, k⟩ := k
  refine w_faload dX5_learnClock_6 g2 g3 ?_
  refine w_fcmp dX5_learnClock_7 ?_
  refine w_if_le (pc' := 18) dX5_learnClock_8 rfl rfl ⟨fun c => ?_, fun c => ?_⟩
  · replace k := k.1 c
    refine w_aload_n dX5_learnClock_18 rfl ?_
    refine w_dup dX5_learnClock_19 rfl ?_
    refine w_getI dX5_learnClock_20 f_5_22 t_5_2 g1 ?_
    refine w_iconst dX5_learnClock_23 i1_1 ?_
    refine w_iload_n dX5_learnClock_24 rfl ?_
    refine w_ishl dX5_learnClock_25 ?_
    refine w_ior dX5_learnClock_26 ?_
    refine w_putI dX5_learnClock_27 f_5_22 t_5_2 (pf_nf n_5_2) g1 ?_
    exact w_return dX5_learnClock_30 rfl k
  · replace k := k.2 c
    refine w_aload_n dX5_learnClock_11 rfl ?_
    refine w_getR dX5_learnClock_12 f_5_18 t_5_3 g1 ?_
    refine w_iload_n dX5_learnClock_15 rfl ?_
    refine w_fload_n dX5_learnClock_16 rfl ?_
    refine w_fastore dX5_learnClock_17 g2 g3 ?_
    refine w_aload_n dX5_learnClock_18 rfl ?_
    refine w_dup dX5_learnClock_19 rfl ?_
    refine w_getI dX5_learnClock_20 f_5_22 t_5_2 g1 ?_
    refine w_iconst dX5_learnClock_23 i1_1 ?_
    refine w_iload_n dX5_learnClock_24 rfl ?_
    refine w_ishl dX5_learnClock_25 ?_
    refine w_ior dX5_learnClock_26 ?_
    refine w_putI dX5_learnClock_27 f_5_22 t_5_2 (pf_nf n_5_2) g1 ?_
    exact w_return dX5_learnClock_30 rfl k
theorem bX5_knowing_0 {d : Nat} {h : HP} {Q : Out → HP → Prop} {v0 : Nat} {v1 : Int32} {u2 : Option Value} {u3 : Option Value} (k : WP d mX5_knowing 4 [some (.ref v0), some (.int v1), some (.int (0 : Int32)), some (.int (0 : Int32))] [] h Q) : WP d mX5_knowing 0 [some (.ref v0), some (.int v1), u2, u3] [] h Q := by
  refine w_iconst dX5_knowing_0 i1_0 ?_
  refine w_istore_n (lo' := [some (.ref v0), some (.int v1), some (.int (0 : Int32)), u3]) dX5_knowing_1 (ltQ rfl) rfl ?_
  refine w_iconst dX5_knowing_2 i1_0 ?_
  refine w_istore_n (lo' := [some (.ref v0), some (.int v1), some (.int (0 : Int32)), some (.int (0 : Int32))]) dX5_knowing_3 (ltQ rfl) rfl ?_
  exact k
theorem bX5_knowing_4 {d : Nat} {h : HP} {Q : Out → HP → Prop} {v0 : Nat} {v1 : Int32} {v2 : Int32} {v3 : Int32} (k : (((5 : Int32) ≤ v3) → Q (.inl (some (.int v2))) h) ∧ ((¬ ((5 : Int32) ≤ v3)) → (hK h v0 = 5) ∧ ((hK h (hR h 501 v0) = 20) ∧ ((inA h (hR h 501 v0) v3 = true) ∧ ((((hAI h (hR h 501 v0) (v3).toNatClampNeg) < v1) → WP d mX5_knowing 4 [some (.ref v0), some (.int v1), some (.int v2), some (.int (v3 + (1 : Int32)))] [] h Q) ∧ ((¬ ((hAI h (hR h 501 v0) (v3).toNatClampNeg) < v1)) → WP d mX5_knowing 4 [some (.ref v0), some (.int v1), some (.int (v2 + (1 : Int32))), some (.int (v3 + (1 : Int32)))] [] h Q)))))) : WP d mX5_knowing 4 [some (.ref v0), some (.int v1), some (.int v2), some (.int v3)] [] h Q := by
  refine w_iload_n dX5_knowing_4 rfl ?_
  refine w_iconst dX5_knowing_5 i1_5 ?_
  refine w_ic_ge (pc' := 28) dX5_knowing_6 rfl rfl ⟨fun c => ?_, fun c => ?_⟩
  · replace k := k.1 c
    refine w_iload_n dX5_knowing_28 rfl ?_
    exact w_ireturn dX5_knowing_29 rfl k
  · replace k := k.2 c
    refine w_aload_n dX5_knowing_9 rfl ?_
    obtain ⟨g1, k⟩ := k
    refine w_getR dX5_knowing_10 f_5_15 t_5_1 g1 ?_
    refine w_iload_n dX5_knowing_13 rfl ?_
    obtain ⟨g2, k⟩ := k
    obtain ⟨g3, k⟩ := k
    refine w_iaload dX5_knowing_14 g2 g3 ?_
    refine w_iload_n dX5_knowing_15 rfl ?_
    refine w_ic_lt (pc' := 22) dX5_knowing_16 rfl rfl ⟨fun c => ?_, fun c => ?_⟩
    · replace k := k.1 c
      refine w_iinc (lo' := [some (.ref v0), some (.int v1), some (.int v2), some (.int (v3 + (1 : Int32)))]) dX5_knowing_22 rfl i1_1 rfl ?_
      refine w_goto (pc' := 4) dX5_knowing_25 rfl rfl ?_
      exact k
    · replace k := k.2 c
      refine w_iinc (lo' := [some (.ref v0), some (.int v1), some (.int (v2 + (1 : Int32))), some (.int v3)]) dX5_knowing_19 rfl i1_1 rfl ?_
      refine w_iinc (lo' := [some (.ref v0), some (.int v1), some (.int (v2 + (1 : Int32))), some (.int (v3 + (1 : Int32)))]) dX5_knowing_22 rfl i1_1 rfl ?_
      refine w_goto (pc' := 4) dX5_knowing_25 rfl rfl ?_
      exact k
theorem bX5_clockOf_0 {d : Nat} {h : HP} {Q : Out → HP → Prop} {v0 : Nat} {v1 : Int32} {u2 : Option Value} {u3 : Option Value} (k : WP d mX5_clockOf 4 [some (.ref v0), some (.int v1), some (.float FP.fconst0), some (.int (0 : Int32))] [] h Q) : WP d mX5_clockOf 0 [some (.ref v0), some (.int v1), u2, u3] [] h Q := by
  refine w_fconst0 dX5_clockOf_0 ?_
  refine w_fstore_n (lo' := [some (.ref v0), some (.int v1), some (.float FP.fconst0), u3]) dX5_clockOf_1 (ltQ rfl) rfl ?_
  refine w_iconst dX5_clockOf_2 i1_0 ?_
  refine w_istore_n (lo' := [some (.ref v0), some (.int v1), some (.float FP.fconst0), some (.int (0 : Int32))]) dX5_clockOf_3 (ltQ rfl) rfl ?_
  exact k
theorem bX5_clockOf_4 {d : Nat} {h : HP} {Q : Out → HP → Prop} {v0 : Nat} {v1 : Int32} {v2 : UInt32} {v3 : Int32} (k : (((5 : Int32) ≤ v3) → Q (.inl (some (.float v2))) h) ∧ ((¬ ((5 : Int32) ≤ v3)) → (1 < v0) ∧ ((hK h v0 = 5) ∧ (WP d mX5_hasAnswered 0 [some (.ref v0), some (.int v3)] [] h (KK d mX5_clockOf mX5_hasAnswered 11 [some (.ref v0), some (.int v1), some (.float v2), some (.int v3)] [] Q))))) : WP (d + 1) mX5_clockOf 4 [some (.ref v0), some (.int v1), some (.float v2), some (.int v3)] [] h Q := by
  refine w_iload_n dX5_clockOf_4 rfl ?_
  refine w_iconst dX5_clockOf_5 i1_5 ?_
  refine w_ic_ge (pc' := 55) dX5_clockOf_6 rfl rfl ⟨fun c => ?_, fun c => ?_⟩
  · replace k := k.1 c
    refine w_fload_n dX5_clockOf_55 rfl ?_
    exact w_freturn dX5_clockOf_56 rfl k
  · replace k := k.2 c
    refine w_aload_n dX5_clockOf_9 rfl ?_
    refine w_iload_n dX5_clockOf_10 rfl ?_
    obtain ⟨g1, k⟩ := k
    obtain ⟨g2, k⟩ := k
    exact w_virt (as1 := [.int v3, .ref v0]) (as2 := [.ref v0, .int v3]) (rest := []) (lo2 := [some (.ref v0), some (.int v3)]) dX5_clockOf_11 c_5_30 rfl rfl rfl (Nat.le_of_ble_eq_true rfl) (Nat.le_of_ble_eq_true rfl) rfl (Nat.le_of_ble_eq_true rfl) rfl rfl g1 g2 k
theorem bX5_clockOf_14 {d : Nat} {h : HP} {Q : Out → HP → Prop} {v0 : Nat} {v1 : Int32} {v2 : UInt32} {v3 : Int32} {s0 : Int32} (k : ((s0 = 0) → WP (d + 1) mX5_clockOf 4 [some (.ref v0), some (.int v1), some (.float v2), some (.int (v3 + (1 : Int32)))] [] h Q) ∧ ((¬ (s0 = 0)) → (hK h v0 = 5) ∧ ((hK h (hR h 503 v0) = 22) ∧ ((inA h (hR h 503 v0) v3 = true) ∧ ((((Op.cmpValue (FP.fcmp (hAF h (hR h 503 v0) (v3).toNatClampNeg) v2) .l) ≤ 0) → WP (d + 1) mX5_clockOf 4 [some (.ref v0), some (.int v1), some (.float v2), some (.int (v3 + (1 : Int32)))] [] h Q) ∧ ((¬ ((Op.cmpValue (FP.fcmp (hAF h (hR h 503 v0) (v3).toNatClampNeg) v2) .l) ≤ 0)) → (1 < v0) ∧ (WP d mX5_answeredSince 0 [some (.ref v0), some (.float (hAF h (hR h 503 v0) (v3).toNatClampNeg)), none, none] [] h (KK d mX5_clockOf mX5_answeredSince 35 [some (.ref v0), some (.int v1), some (.float v2), some (.int v3)] [] Q)))))))) : WP (d + 1) mX5_clockOf 14 [some (.ref v0), some (.int v1), some (.float v2), some (.int v3)] [.int s0] h Q := by
  refine w_if_eq (pc' := 49) dX5_clockOf_14 rfl rfl ⟨fun c => ?_, fun c => ?_⟩
  · replace k := k.1 c
    refine w_iinc (lo' := [some (.ref v0), some (.int v1), some (.float v2), some (.int (v3 + (1 : Int32)))]) dX5_clockOf_49 rfl i1_1 rfl ?_
    refine w_goto (pc' := 4) dX5_clockOf_52 rfl rfl ?_
    exact k
  · replace k := k.2 c
    refine w_aload_n dX5_clockOf_17 rfl ?_
    obtain ⟨g1, k⟩ := k
    refine w_getR dX5_clockOf_18 f_5_18 t_5_3 g1 ?_
    refine w_iload_n dX5_clockOf_21 rfl ?_
    obtain ⟨g2, k⟩ := k
    obtain ⟨g3, k⟩ := k
    refine w_faload dX5_clockOf_22 g2 g3 ?_
    refine w_fload_n dX5_clockOf_23 rfl ?_
    refine w_fcmp dX5_clockOf_24 ?_
    refine w_if_le (pc' := 49) dX5_clockOf_25 rfl rfl ⟨fun c => ?_, fun c => ?_⟩
    · replace k := k.1 c
      refine w_iinc (lo' := [some (.ref v0), some (.int v1), some (.float v2), some (.int (v3 + (1 : Int32)))]) dX5_clockOf_49 rfl i1_1 rfl ?_
      refine w_goto (pc' := 4) dX5_clockOf_52 rfl rfl ?_
      exact k
    · replace k := k.2 c
      refine w_aload_n dX5_clockOf_28 rfl ?_
      refine w_aload_n dX5_clockOf_29 rfl ?_
      refine w_getR dX5_clockOf_30 f_5_18 t_5_3 g1 ?_
      refine w_iload_n dX5_clockOf_33 rfl ?_
      refine w_faload dX5_clockOf_34 g2 g3 ?_
      obtain ⟨g4, k⟩ := k
      exact w_virt (as1 := [.float (hAF h (hR h 503 v0) (v3).toNatClampNeg), .ref v0]) (as2 := [.ref v0, .float (hAF h (hR h 503 v0) (v3).toNatClampNeg)]) (rest := []) (lo2 := [some (.ref v0), some (.float (hAF h (hR h 503 v0) (v3).toNatClampNeg)), none, none]) dX5_clockOf_35 c_5_34 rfl rfl rfl (Nat.le_of_ble_eq_true rfl) (Nat.le_of_ble_eq_true rfl) rfl (Nat.le_of_ble_eq_true rfl) rfl rfl g4 g1 k
theorem bX5_clockOf_38 {d : Nat} {h : HP} {Q : Out → HP → Prop} {v0 : Nat} {v1 : Int32} {v2 : UInt32} {v3 : Int32} {s0 : Int32} (k : ((s0 < v1) → WP d mX5_clockOf 4 [some (.ref v0), some (.int v1), some (.float v2), some (.int (v3 + (1 : Int32)))] [] h Q) ∧ ((¬ (s0 < v1)) → (hK h v0 = 5) ∧ ((hK h (hR h 503 v0) = 22) ∧ ((inA h (hR h 503 v0) v3 = true) ∧ (WP d mX5_clockOf 4 [some (.ref v0), some (.int v1), some (.float (hAF h (hR h 503 v0) (v3).toNatClampNeg)), some (.int (v3 + (1 : Int32)))] [] h Q))))) : WP d mX5_clockOf 38 [some (.ref v0), some (.int v1), some (.float v2), some (.int v3)] [.int s0] h Q := by
  refine w_iload_n dX5_clockOf_38 rfl ?_
  refine w_ic_lt (pc' := 49) dX5_clockOf_39 rfl rfl ⟨fun c => ?_, fun c => ?_⟩
  · replace k := k.1 c
    refine w_iinc (lo' := [some (.ref v0), some (.int v1), some (.float v2), some (.int (v3 + (1 : Int32)))]) dX5_clockOf_49 rfl i1_1 rfl ?_
    refine w_goto (pc' := 4) dX5_clockOf_52 rfl rfl ?_
    exact k
  · replace k := k.2 c
    refine w_aload_n dX5_clockOf_42 rfl ?_
    obtain ⟨g1, k⟩ := k
    refine w_getR dX5_clockOf_43 f_5_18 t_5_3 g1 ?_
    refine w_iload_n dX5_clockOf_46 rfl ?_
    obtain ⟨g2, k⟩ := k
    obtain ⟨g3, k⟩ := k
    refine w_faload dX5_clockOf_47 g2 g3 ?_
    refine w_fstore_n (lo' := [some (.ref v0), some (.int v1), some (.float (hAF h (hR h 503 v0) (v3).toNatClampNeg)), some (.int v3)]) dX5_clockOf_48 (ltQ rfl) rfl ?_
    refine w_iinc (lo' := [some (.ref v0), some (.int v1), some (.float (hAF h (hR h 503 v0) (v3).toNatClampNeg)), some (.int (v3 + (1 : Int32)))]) dX5_clockOf_49 rfl i1_1 rfl ?_
    refine w_goto (pc' := 4) dX5_clockOf_52 rfl rfl ?_
    exact k
theorem bX5_answeredSince_0 {d : Nat} {h : HP} {Q : Out → HP → Prop} {v0 : Nat} {v1 : UInt32} {u2 : Option Value} {u3 : Option Value} (k : WP d mX5_answeredSince 4 [some (.ref v0), some (.float v1), some (.int (0 : Int32)), some (.int (0 : Int32))] [] h Q) : WP d mX5_answeredSince 0 [some (.ref v0), some (.float v1), u2, u3] [] h Q := by
  refine w_iconst dX5_answeredSince_0 i1_0 ?_
  refine w_istore_n (lo' := [some (.ref v0), some (.float v1), some (.int (0 : Int32)), u3]) dX5_answeredSince_1 (ltQ rfl) rfl ?_
  refine w_iconst dX5_answeredSince_2 i1_0 ?_
  refine w_istore_n (lo' := [some (.ref v0), some (.float v1), some (.int (0 : Int32)), some (.int (0 : Int32))]) dX5_answeredSince_3 (ltQ rfl) rfl ?_
  exact k
theorem bX5_answeredSince_4 {d : Nat} {h : HP} {Q : Out → HP → Prop} {v0 : Nat} {v1 : UInt32} {v2 : Int32} {v3 : Int32} (k : (((5 : Int32) ≤ v3) → Q (.inl (some (.int v2))) h) ∧ ((¬ ((5 : Int32) ≤ v3)) → (1 < v0) ∧ ((hK h v0 = 5) ∧ (WP d mX5_hasAnswered 0 [some (.ref v0), some (.int v3)] [] h (KK d mX5_answeredSince mX5_hasAnswered 11 [some (.ref v0), some (.float v1), some (.int v2), some (.int v3)] [] Q))))) : WP (d + 1) mX5_answeredSince 4 [some (.ref v0), some (.float v1), some (.int v2), some (.int v3)] [] h Q := by
  refine w_iload_n dX5_answeredSince_4 rfl ?_
  refine w_iconst dX5_answeredSince_5 i1_5 ?_
  refine w_ic_ge (pc' := 37) dX5_answeredSince_6 rfl rfl ⟨fun c => ?_, fun c => ?_⟩
  · replace k := k.1 c
    refine w_iload_n dX5_answeredSince_37 rfl ?_
    exact w_ireturn dX5_answeredSince_38 rfl k
  · replace k := k.2 c
    refine w_aload_n dX5_answeredSince_9 rfl ?_
    refine w_iload_n dX5_answeredSince_10 rfl ?_
    obtain ⟨g1, k⟩ := k
    obtain ⟨g2, k⟩ := k
    exact w_virt (as1 := [.int v3, .ref v0]) (as2 := [.ref v0, .int v3]) (rest := []) (lo2 := [some (.ref v0), some (.int v3)]) dX5_answeredSince_11 c_5_30 rfl rfl rfl (Nat.le_of_ble_eq_true rfl) (Nat.le_of_ble_eq_true rfl) rfl (Nat.le_of_ble_eq_true rfl) rfl rfl g1 g2 k
theorem bX5_answeredSince_14 {d : Nat} {h : HP} {Q : Out → HP → Prop} {v0 : Nat} {v1 : UInt32} {v2 : Int32} {v3 : Int32} {s0 : Int32} (k : ((s0 = 0) → WP d mX5_answeredSince 4 [some (.ref v0), some (.float v1), some (.int v2), some (.int (v3 + (1 : Int32)))] [] h Q) ∧ ((¬ (s0 = 0)) → (hK h v0 = 5) ∧ ((hK h (hR h 503 v0) = 22) ∧ ((inA h (hR h 503 v0) v3 = true) ∧ ((((Op.cmpValue (FP.fcmp (hAF h (hR h 503 v0) (v3).toNatClampNeg) v1) .l) < 0) → WP d mX5_answeredSince 4 [some (.ref v0), some (.float v1), some (.int v2), some (.int (v3 + (1 : Int32)))] [] h Q) ∧ ((¬ ((Op.cmpValue (FP.fcmp (hAF h (hR h 503 v0) (v3).toNatClampNeg) v1) .l) < 0)) → WP d mX5_answeredSince 4 [some (.ref v0), some (.float v1), some (.int (v2 + (1 : Int32))), some (.int (v3 + (1 : Int32)))] [] h Q)))))) : WP d mX5_answeredSince 14 [some (.ref v0), some (.float v1), some (.int v2), some (.int v3)] [.int s0] h Q := by
  refine w_if_eq (pc' := 31) dX5_answeredSince_14 rfl rfl ⟨fun c => ?_, fun c => ?_⟩
  · replace k := k.1 c
    refine w_iinc (lo' := [some (.ref v0), some (.float v1), some (.int v2), some (.int (v3 + (1 : Int32)))]) dX5_answeredSince_31 rfl i1_1 rfl ?_
    refine w_goto (pc' := 4) dX5_answeredSince_34 rfl rfl ?_
    exact k
  · replace k := k.2 c
    refine w_aload_n dX5_answeredSince_17 rfl ?_
    obtain ⟨g1, k⟩ := k
    refine w_getR dX5_answeredSince_18 f_5_18 t_5_3 g1 ?_
    refine w_iload_n dX5_answeredSince_21 rfl ?_
    obtain ⟨g2, k⟩ := k
    obtain ⟨g3, k⟩ := k
    refine w_faload dX5_answeredSince_22 g2 g3 ?_
    refine w_fload_n dX5_answeredSince_23 rfl ?_
    refine w_fcmp dX5_answeredSince_24 ?_
    refine w_if_lt (pc' := 31) dX5_answeredSince_25 rfl rfl ⟨fun c => ?_, fun c => ?_⟩
    · replace k := k.1 c
      refine w_iinc (lo' := [some (.ref v0), some (.float v1), some (.int v2), some (.int (v3 + (1 : Int32)))]) dX5_answeredSince_31 rfl i1_1 rfl ?_
      refine w_goto (pc' := 4) dX5_answeredSince_34 rfl rfl ?_
      exact k
    · replace k := k.2 c
      refine w_iinc (lo' := [some (.ref v0), some (.float v1), some (.int (v2 + (1 : Int32))), some (.int v3)]) dX5_answeredSince_28 rfl i1_1 rfl ?_
      refine w_iinc (lo' := [some (.ref v0), some (.float v1), some (.int (v2 + (1 : Int32))), some (.int (v3 + (1 : Int32)))]) dX5_answeredSince_31 rfl i1_1 rfl ?_
      refine w_goto (pc' := 4) dX5_answeredSince_34 rfl rfl ?_
      exact k
theorem bX5_hasAnswered_0 {d : Nat} {h : HP} {Q : Out → HP → Prop} {v0 : Nat} {v1 : Int32} (k : (hK h v0 = 5) ∧ (((¬ (((hI h 502 v0) >>> (v1 &&& 31)) &&& (1 : Int32)) = (1 : Int32)) → Q (.inl (some (.int (0 : Int32)))) h) ∧ ((¬ (¬ (((hI h 502 v0) >>> (v1 &&& 31)) &&& (1 : Int32)) = (1 : Int32))) → Q (.inl (some (.int (1 : Int32)))) h))) : WP d mX5_hasAnswered 0 [some (.ref v0), some (.int v1)] [] h Q := by
  refine w_aload_n dX5_hasAnswered_0 rfl ?_
  obtain ⟨g1, k⟩ := k
  refine w_getI dX5_hasAnswered_1 f_5_22 t_5_2 g1 ?_
  refine w_iload_n dX5_hasAnswered_4 rfl ?_
  refine w_ishr dX5_hasAnswered_5 ?_
  refine w_iconst dX5_hasAnswered_6 i1_1 ?_
  refine w_iand dX5_hasAnswered_7 ?_
  refine w_iconst dX5_hasAnswered_8 i1_1 ?_
  refine w_ic_ne (pc' := 16) dX5_hasAnswered_9 rfl rfl ⟨fun c => ?_, fun c => ?_⟩
  · replace k := k.1 c
    refine w_iconst dX5_hasAnswered_16 i1_0 ?_
    exact w_ireturn dX5_hasAnswered_17 rfl k
  · replace k := k.2 c
    refine w_iconst dX5_hasAnswered_12 i1_1 ?_
    refine w_goto (pc' := 17) dX5_hasAnswered_13 rfl rfl ?_
    exact w_ireturn dX5_hasAnswered_17 rfl k
theorem bX6_init_0 {d : Nat} {h : HP} {Q : Out → HP → Prop} {v0 : Nat} {v1 : Nat} {v2 : Nat} (k : (1 < v0) ∧ ((hK h v0 = 6) ∧ (Q (.inl none) (sR (sR h 600 v0 v1) 601 v0 v2)))) : WP d mX6_init 0 [some (.ref v0), some (.ref v1), some (.ref v2)] [] h Q := by
  refine w_aload_n dX6_init_0 rfl ?_
  obtain ⟨g1, k⟩ := k
  refine w_obj dX6_init_1 c_6_3 (Nat.le_of_ble_eq_true rfl) rfl g1 ?_
  refine w_aload_n dX6_init_4 rfl ?_
  refine w_aload_n dX6_init_5 rfl ?_
  obtain ⟨g2, k⟩ := k
  refine w_putR dX6_init_6 f_6_9 t_6_0 (pf_in rfl rfl) g2 ?_
  refine w_aload_n dX6_init_9 rfl ?_
  refine w_aload_n dX6_init_10 rfl ?_
  refine w_putR dX6_init_11 f_6_15 t_6_1 (pf_in rfl rfl) g2 ?_
  exact w_return dX6_init_14 rfl k
theorem bX6_renew_0 {d : Nat} {h : HP} {Q : Out → HP → Prop} {v0 : Nat} (k : (hK h v0 = 6) ∧ (Q (.inl none) (sF (sF h 602 v0 (1092616192 : UInt32)) 603 v0 FP.fconst0))) : WP d mX6_renew 0 [some (.ref v0)] [] h Q := by
  refine w_aload_n dX6_renew_0 rfl ?_
  refine w_ldc dX6_renew_1 l_6_19 ?_
  obtain ⟨g1, k⟩ := k
  refine w_putF dX6_renew_3 f_6_20 t_6_2 (pf_nf n_6_2) g1 ?_
  refine w_aload_n dX6_renew_6 rfl ?_
  refine w_fconst0 dX6_renew_7 ?_
  refine w_putF dX6_renew_8 f_6_24 t_6_3 (pf_nf n_6_3) g1 ?_
  exact w_return dX6_renew_11 rfl k
theorem bX6_letStand_0 {d : Nat} {h : HP} {Q : Out → HP → Prop} {v0 : Nat} {v1 : Nat} {u2 : Option Value} {u3 : Option Value} (k : (hK h v1 = 8) ∧ (WP d mX6_letStand 35 [some (.ref v0), some (.ref v1), some (.int (0 : Int32)), u3] [] (sI (sI (sI (sI h 808 v1 ((hI h 808 v1) + (1 : Int32))) 809 v1 (hI (sI h 808 v1 ((hI h 808 v1) + (1 : Int32))) 800 v1)) 807 v1 (1 : Int32)) 811 v1 ((1 : Int32) <<< ((hI (sI (sI (sI h 808 v1 ((hI h 808 v1) + (1 : Int32))) 809 v1 (hI (sI h 808 v1 ((hI h 808 v1) + (1 : Int32))) 800 v1)) 807 v1 (1 : Int32)) 800 v1) &&& 31))) Q)) : WP d mX6_letStand 0 [some (.ref v0), some (.ref v1), u2, u3] [] h Q := by
  refine w_aload_n dX6_letStand_0 rfl ?_
  refine w_dup dX6_letStand_1 rfl ?_
  obtain ⟨g1, k⟩ := k
  refine w_getI dX6_letStand_2 f_6_27 t_8_8 g1 ?_
  refine w_iconst dX6_letStand_5 i1_1 ?_
  refine w_iadd dX6_letStand_6 ?_
  refine w_putI dX6_letStand_7 f_6_27 t_8_8 (pf_nf n_8_8) g1 ?_
  refine w_aload_n dX6_letStand_10 rfl ?_
  refine w_aload_n dX6_letStand_11 rfl ?_
  refine w_getI dX6_letStand_12 f_6_33 t_8_0 g1 ?_
  refine w_putI dX6_letStand_15 f_6_36 t_8_9 (pf_nf n_8_9) g1 ?_
  refine w_aload_n dX6_letStand_18 rfl ?_
  refine w_iconst dX6_letStand_19 i1_1 ?_
  refine w_putI dX6_letStand_20 f_6_39 t_8_7 (pf_nf n_8_7) g1 ?_
  refine w_aload_n dX6_letStand_23 rfl ?_
  refine w_iconst dX6_letStand_24 i1_1 ?_
  refine w_aload_n dX6_letStand_25 rfl ?_
  refine w_getI dX6_letStand_26 f_6_33 t_8_0 g1 ?_
  refine w_ishl dX6_letStand_29 ?_
  refine w_putI dX6_letStand_30 f_6_42 t_8_11 (pf_nf n_8_11) g1 ?_
  refine w_iconst dX6_letStand_33 i1_0 ?_
  refine w_istore_n (lo' := [some (.ref v0), some (.ref v1), some (.int (0 : Int32)), u3]) dX6_letStand_34 (ltQ rfl) rfl ?_
  exact k
theorem bX6_letStand_35 {d : Nat} {h : HP} {Q : Out → HP → Prop} {v0 : Nat} {v1 : Nat} {v2 : Int32} {u3 : Option Value} (k : (hK h v0 = 6) ∧ ((hK h (hR h 601 v0) = 10) ∧ ((((hI h 1000 (hR h 601 v0)) ≤ v2) → Q (.inl none) h) ∧ ((¬ ((hI h 1000 (hR h 601 v0)) ≤ v2)) → (hK h v1 = 8) ∧ (((v2 = (hI h 800 v1)) → WP (d + 1) mX6_letStand 35 [some (.ref v0), some (.ref v1), some (.int (v2 + (1 : Int32))), u3] [] h Q) ∧ ((¬ (v2 = (hI h 800 v1))) → (1 < (hR h 601 v0)) ∧ (WP d mX10_send 0 [some (.ref (hR h 601 v0)), some (.int (0 : Int32)), some (.int (hI h 800 v1)), some (.int v2), some (.int (hI h 808 v1)), none] [] h (KK d mX6_letStand mX10_send 68 [some (.ref v0), some (.ref v1), some (.int v2), u3] [] Q)))))))) : WP (d + 1) mX6_letStand 35 [some (.ref v0), some (.ref v1), some (.int v2), u3] [] h Q := by
  refine w_iload_n dX6_letStand_35 rfl ?_
  refine w_aload_n dX6_letStand_36 rfl ?_
  obtain ⟨g1, k⟩ := k
  refine w_getR dX6_letStand_37 f_6_15 t_6_1 g1 ?_
  obtain ⟨g2, k⟩ := k
  refine w_getI dX6_letStand_40 f_6_45 t_10_0 g2 ?_
  refine w_ic_ge (pc' := 107) dX6_letStand_43 rfl rfl ⟨fun c => ?_, fun c => ?_⟩
  · replace k := k.1 c
    exact w_return dX6_letStand_107 rfl k
  · replace k := k.2 c
    refine w_iload_n dX6_letStand_46 rfl ?_
    refine w_aload_n dX6_letStand_47 rfl ?_
    obtain ⟨g3, k⟩ := k
    refine w_getI dX6_letStand_48 f_6_33 t_8_0 g3 ?_
    refine w_ic_eq (pc' := 101) dX6_letStand_51 rfl rfl ⟨fun c => ?_, fun c => ?_⟩
    · replace k := k.1 c
      refine w_iinc (lo' := [some (.ref v0), some (.ref v1), some (.int (v2 + (1 : Int32))), u3]) dX6_letStand_101 rfl i1_1 rfl ?_
      refine w_goto (pc' := 35) dX6_letStand_104 rfl rfl ?_
      exact k
    · replace k := k.2 c
      refine w_aload_n dX6_letStand_54 rfl ?_
      refine w_getR dX6_letStand_55 f_6_15 t_6_1 g1 ?_
      refine w_iconst dX6_letStand_58 i1_0 ?_
      refine w_aload_n dX6_letStand_59 rfl ?_
      refine w_getI dX6_letStand_60 f_6_33 t_8_0 g3 ?_
      refine w_iload_n dX6_letStand_63 rfl ?_
      refine w_aload_n dX6_letStand_64 rfl ?_
      refine w_getI dX6_letStand_65 f_6_27 t_8_8 g3 ?_
      obtain ⟨g4, k⟩ := k
      exact w_virt (as1 := [.int (hI h 808 v1), .int v2, .int (hI h 800 v1), .int (0 : Int32), .ref (hR h 601 v0)]) (as2 := [.ref (hR h 601 v0), .int (0 : Int32), .int (hI h 800 v1), .int v2, .int (hI h 808 v1)]) (rest := []) (lo2 := [some (.ref (hR h 601 v0)), some (.int (0 : Int32)), some (.int (hI h 800 v1)), some (.int v2), some (.int (hI h 808 v1)), none]) dX6_letStand_68 c_6_50 rfl rfl rfl (Nat.le_of_ble_eq_true rfl) (Nat.le_of_ble_eq_true rfl) rfl (Nat.le_of_ble_eq_true rfl) rfl rfl g4 g2 k
theorem bX6_letStand_71 {d : Nat} {h : HP} {Q : Out → HP → Prop} {v0 : Nat} {v1 : Nat} {v2 : Int32} {u3 : Option Value} {s0 : Nat} (k : (hK h v1 = 8) ∧ ((hK h (hR h 801 v1) = 7) ∧ ((hK h s0 = 9) ∧ ((1 < (hR h 801 v1)) ∧ (WP d mX7_termAt 0 [some (.ref (hR h 801 v1)), some (.int (hI (sI h 904 s0 (hI h 701 (hR h 801 v1))) 701 (hR h 801 v1))), none] [] (sI h 904 s0 (hI h 701 (hR h 801 v1))) (KK d mX6_letStand mX7_termAt 95 [some (.ref v0), some (.ref v1), some (.int v2), some (.ref s0)] [.ref s0] Q)))))) : WP (d + 1) mX6_letStand 71 [some (.ref v0), some (.ref v1), some (.int v2), u3] [.ref s0] h Q := by
  refine w_astore_n (lo' := [some (.ref v0), some (.ref v1), some (.int v2), some (.ref s0)]) dX6_letStand_71 (ltQ rfl) rfl ?_
  refine w_aload_n dX6_letStand_72 rfl ?_
  refine w_aload_n dX6_letStand_73 rfl ?_
  obtain ⟨g1, k⟩ := k
  refine w_getR dX6_letStand_74 f_6_54 t_8_1 g1 ?_
  obtain ⟨g2, k⟩ := k
  refine w_getI dX6_letStand_77 f_6_58 t_7_1 g2 ?_
  obtain ⟨g3, k⟩ := k
  refine w_putI dX6_letStand_80 f_6_63 t_9_4 (pf_nf n_9_4) g3 ?_
  refine w_aload_n dX6_letStand_83 rfl ?_
  refine w_aload_n dX6_letStand_84 rfl ?_
  refine w_getR dX6_letStand_85 f_6_54 t_8_1 g1 ?_
  refine w_aload_n dX6_letStand_88 rfl ?_
  refine w_getR dX6_letStand_89 f_6_54 t_8_1 g1 ?_
  refine w_getI dX6_letStand_92 f_6_58 t_7_1 g2 ?_
  obtain ⟨g4, k⟩ := k
  exact w_virt (as1 := [.int (hI (sI h 904 s0 (hI h 701 (hR h 801 v1))) 701 (hR h 801 v1)), .ref (hR h 801 v1)]) (as2 := [.ref (hR h 801 v1), .int (hI (sI h 904 s0 (hI h 701 (hR h 801 v1))) 701 (hR h 801 v1))]) (rest := [.ref s0]) (lo2 := [some (.ref (hR h 801 v1)), some (.int (hI (sI h 904 s0 (hI h 701 (hR h 801 v1))) 701 (hR h 801 v1))), none]) dX6_letStand_95 c_6_66 rfl rfl rfl (Nat.le_of_ble_eq_true rfl) (Nat.le_of_ble_eq_true rfl) rfl (Nat.le_of_ble_eq_true rfl) rfl rfl g4 g2 k
theorem bX6_letStand_98 {d : Nat} {h : HP} {Q : Out → HP → Prop} {v0 : Nat} {v1 : Nat} {v2 : Int32} {v3 : Nat} {s0 : Int32} {s1 : Nat} (k : (hK h s1 = 9) ∧ (WP d mX6_letStand 35 [some (.ref v0), some (.ref v1), some (.int (v2 + (1 : Int32))), some (.ref v3)] [] (sI h 905 s1 s0) Q)) : WP d mX6_letStand 98 [some (.ref v0), some (.ref v1), some (.int v2), some (.ref v3)] [.int s0, .ref s1] h Q := by
  obtain ⟨g1, k⟩ := k
  refine w_putI dX6_letStand_98 f_6_70 t_9_5 (pf_nf n_9_5) g1 ?_
  refine w_iinc (lo' := [some (.ref v0), some (.ref v1), some (.int (v2 + (1 : Int32))), some (.ref v3)]) dX6_letStand_101 rfl i1_1 rfl ?_
  refine w_goto (pc' := 35) dX6_letStand_104 rfl rfl ?_
  exact k
theorem bX6_letBeat_0 {d : Nat} {h : HP} {Q : Out → HP → Prop} {v0 : Nat} {v1 : Nat} {u2 : Option Value} {u3 : Option Value} {u4 : Option Value} (k : WP d mX6_letBeat 4 [some (.ref v0), some (.ref v1), some (.int (0 : Int32)), some (.int (0 : Int32)), u4] [] h Q) : WP d mX6_letBeat 0 [some (.ref v0), some (.ref v1), u2, u3, u4] [] h Q := by
  refine w_iconst dX6_letBeat_0 i1_0 ?_
  refine w_istore_n (lo' := [some (.ref v0), some (.ref v1), some (.int (0 : Int32)), u3, u4]) dX6_letBeat_1 (ltQ rfl) rfl ?_
  refine w_iconst dX6_letBeat_2 i1_0 ?_
  refine w_istore_n (lo' := [some (.ref v0), some (.ref v1), some (.int (0 : Int32)), some (.int (0 : Int32)), u4]) dX6_letBeat_3 (ltQ rfl) rfl ?_
  exact k
theorem bX6_letBeat_4 {d : Nat} {h : HP} {Q : Out → HP → Prop} {v0 : Nat} {v1 : Nat} {v2 : Int32} {v3 : Int32} {u4 : Option Value} (k : (hK h v0 = 6) ∧ ((hK h (hR h 601 v0) = 10) ∧ ((((hI h 1000 (hR h 601 v0)) ≤ v3) → Q (.inl (some (.int v2))) h) ∧ ((¬ ((hI h 1000 (hR h 601 v0)) ≤ v3)) → (hK h v1 = 8) ∧ (((v3 = (hI h 800 v1)) → WP (d + 1) mX6_letBeat 4 [some (.ref v0), some (.ref v1), some (.int v2), some (.int (v3 + (1 : Int32))), u4] [] h Q) ∧ ((¬ (v3 = (hI h 800 v1))) → (1 < (hR h 601 v0)) ∧ (WP d mX10_send 0 [some (.ref (hR h 601 v0)), some (.int (2 : Int32)), some (.int (hI h 800 v1)), some (.int v3), some (.int (hI h 808 v1)), none] [] h (KK d mX6_letBeat mX10_send 37 [some (.ref v0), some (.ref v1), some (.int v2), some (.int v3), u4] [] Q)))))))) : WP (d + 1) mX6_letBeat 4 [some (.ref v0), some (.ref v1), some (.int v2), some (.int v3), u4] [] h Q := by
  refine w_iload_n dX6_letBeat_4 rfl ?_
  refine w_aload_n dX6_letBeat_5 rfl ?_
  obtain ⟨g1, k⟩ := k
  refine w_getR dX6_letBeat_6 f_6_15 t_6_1 g1 ?_
  obtain ⟨g2, k⟩ := k
  refine w_getI dX6_letBeat_9 f_6_45 t_10_0 g2 ?_
  refine w_ic_ge (pc' := 119) dX6_letBeat_12 rfl rfl ⟨fun c => ?_, fun c => ?_⟩
  · replace k := k.1 c
    refine w_iload_n dX6_letBeat_119 rfl ?_
    exact w_ireturn dX6_letBeat_120 rfl k
  · replace k := k.2 c
    refine w_iload_n dX6_letBeat_15 rfl ?_
    refine w_aload_n dX6_letBeat_16 rfl ?_
    obtain ⟨g3, k⟩ := k
    refine w_getI dX6_letBeat_17 f_6_33 t_8_0 g3 ?_
    refine w_ic_eq (pc' := 113) dX6_letBeat_20 rfl rfl ⟨fun c => ?_, fun c => ?_⟩
    · replace k := k.1 c
      refine w_iinc (lo' := [some (.ref v0), some (.ref v1), some (.int v2), some (.int (v3 + (1 : Int32))), u4]) dX6_letBeat_113 rfl i1_1 rfl ?_
      refine w_goto (pc' := 4) dX6_letBeat_116 rfl rfl ?_
      exact k
    · replace k := k.2 c
      refine w_aload_n dX6_letBeat_23 rfl ?_
      refine w_getR dX6_letBeat_24 f_6_15 t_6_1 g1 ?_
      refine w_iconst dX6_letBeat_27 i1_2 ?_
      refine w_aload_n dX6_letBeat_28 rfl ?_
      refine w_getI dX6_letBeat_29 f_6_33 t_8_0 g3 ?_
      refine w_iload_n dX6_letBeat_32 rfl ?_
      refine w_aload_n dX6_letBeat_33 rfl ?_
      refine w_getI dX6_letBeat_34 f_6_27 t_8_8 g3 ?_
      obtain ⟨g4, k⟩ := k
      exact w_virt (as1 := [.int (hI h 808 v1), .int v3, .int (hI h 800 v1), .int (2 : Int32), .ref (hR h 601 v0)]) (as2 := [.ref (hR h 601 v0), .int (2 : Int32), .int (hI h 800 v1), .int v3, .int (hI h 808 v1)]) (rest := []) (lo2 := [some (.ref (hR h 601 v0)), some (.int (2 : Int32)), some (.int (hI h 800 v1)), some (.int v3), some (.int (hI h 808 v1)), none]) dX6_letBeat_37 c_6_50 rfl rfl rfl (Nat.le_of_ble_eq_true rfl) (Nat.le_of_ble_eq_true rfl) rfl (Nat.le_of_ble_eq_true rfl) rfl rfl g4 g2 k
theorem bX6_letBeat_40 {d : Nat} {h : HP} {Q : Out → HP → Prop} {v0 : Nat} {v1 : Nat} {v2 : Int32} {v3 : Int32} {u4 : Option Value} {s0 : Nat} (k : (hK h v1 = 8) ∧ ((hK h (hR h 802 v1) = 5) ∧ ((hK h (hR h 500 (hR h 802 v1)) = 20) ∧ ((inA h (hR h 500 (hR h 802 v1)) v3 = true) ∧ ((hK h s0 = 9) ∧ ((1 < (hR h 801 v1)) ∧ ((hK h (hR h 801 v1) = 7) ∧ (WP d mX7_termAt 0 [some (.ref (hR h 801 v1)), some (.int (hI (sI h 904 s0 (hAI h (hR h 500 (hR h 802 v1)) (v3).toNatClampNeg)) 904 s0)), none] [] (sI h 904 s0 (hAI h (hR h 500 (hR h 802 v1)) (v3).toNatClampNeg)) (KK d mX6_letBeat mX7_termAt 67 [some (.ref v0), some (.ref v1), some (.int v2), some (.int v3), some (.ref s0)] [.ref s0] Q))))))))) : WP (d + 1) mX6_letBeat 40 [some (.ref v0), some (.ref v1), some (.int v2), some (.int v3), u4] [.ref s0] h Q := by
  refine w_astore (lo' := [some (.ref v0), some (.ref v1), some (.int v2), some (.int v3), some (.ref s0)]) dX6_letBeat_40 (ltQ rfl) rfl ?_
  refine w_aload dX6_letBeat_42 rfl ?_
  refine w_aload_n dX6_letBeat_44 rfl ?_
  obtain ⟨g1, k⟩ := k
  refine w_getR dX6_letBeat_45 f_6_73 t_8_2 g1 ?_
  obtain ⟨g2, k⟩ := k
  refine w_getR dX6_letBeat_48 f_6_77 t_5_0 g2 ?_
  refine w_iload_n dX6_letBeat_51 rfl ?_
  obtain ⟨g3, k⟩ := k
  obtain ⟨g4, k⟩ := k
  refine w_iaload dX6_letBeat_52 g3 g4 ?_
  obtain ⟨g5, k⟩ := k
  refine w_putI dX6_letBeat_53 f_6_63 t_9_4 (pf_nf n_9_4) g5 ?_
  refine w_aload dX6_letBeat_56 rfl ?_
  refine w_aload_n dX6_letBeat_58 rfl ?_
  refine w_getR dX6_letBeat_59 f_6_54 t_8_1 g1 ?_
  refine w_aload dX6_letBeat_62 rfl ?_
  refine w_getI dX6_letBeat_64 f_6_63 t_9_4 g5 ?_
  obtain ⟨g6, k⟩ := k
  obtain ⟨g7, k⟩ := k
  exact w_virt (as1 := [.int (hI (sI h 904 s0 (hAI h (hR h 500 (hR h 802 v1)) (v3).toNatClampNeg)) 904 s0), .ref (hR h 801 v1)]) (as2 := [.ref (hR h 801 v1), .int (hI (sI h 904 s0 (hAI h (hR h 500 (hR h 802 v1)) (v3).toNatClampNeg)) 904 s0)]) (rest := [.ref s0]) (lo2 := [some (.ref (hR h 801 v1)), some (.int (hI (sI h 904 s0 (hAI h (hR h 500 (hR h 802 v1)) (v3).toNatClampNeg)) 904 s0)), none]) dX6_letBeat_67 c_6_66 rfl rfl rfl (Nat.le_of_ble_eq_true rfl) (Nat.le_of_ble_eq_true rfl) rfl (Nat.le_of_ble_eq_true rfl) rfl rfl g6 g7 k
theorem bX6_letBeat_70 {d : Nat} {h : HP} {Q : Out → HP → Prop} {v0 : Nat} {v1 : Nat} {v2 : Int32} {v3 : Int32} {v4 : Nat} {s0 : Int32} {s1 : Nat} (k : (hK h s1 = 9) ∧ ((hK h v1 = 8) ∧ ((hK h v4 = 9) ∧ ((1 < v4) ∧ (WP d mX9_addEntriesBehind 0 [some (.ref v4), some (.ref (hR h 801 v1)), some (.int (hI (sI h 905 s1 s0) 904 v4)), none, none] [] (sI h 905 s1 s0) (KK d mX6_letBeat mX9_addEntriesBehind 84 [some (.ref v0), some (.ref v1), some (.int v2), some (.int v3), some (.ref v4)] [] Q)))))) : WP (d + 1) mX6_letBeat 70 [some (.ref v0), some (.ref v1), some (.int v2), some (.int v3), some (.ref v4)] [.int s0, .ref s1] h Q := by
  obtain ⟨g1, k⟩ := k
  refine w_putI dX6_letBeat_70 f_6_70 t_9_5 (pf_nf n_9_5) g1 ?_
  refine w_aload dX6_letBeat_73 rfl ?_
  refine w_aload_n dX6_letBeat_75 rfl ?_
  obtain ⟨g2, k⟩ := k
  refine w_getR dX6_letBeat_76 f_6_54 t_8_1 g2 ?_
  refine w_aload dX6_letBeat_79 rfl ?_
  obtain ⟨g3, k⟩ := k
  refine w_getI dX6_letBeat_81 f_6_63 t_9_4 g3 ?_
  obtain ⟨g4, k⟩ := k
  exact w_virt (as1 := [.int (hI (sI h 905 s1 s0) 904 v4), .ref (hR h 801 v1), .ref v4]) (as2 := [.ref v4, .ref (hR h 801 v1), .int (hI (sI h 905 s1 s0) 904 v4)]) (rest := []) (lo2 := [some (.ref v4), some (.ref (hR h 801 v1)), some (.int (hI (sI h 905 s1 s0) 904 v4)), none, none]) dX6_letBeat_84 c_6_83 rfl rfl rfl (Nat.le_of_ble_eq_true rfl) (Nat.le_of_ble_eq_true rfl) rfl (Nat.le_of_ble_eq_true rfl) rfl rfl g4 g3 k
theorem bX6_letBeat_87 {d : Nat} {h : HP} {Q : Out → HP → Prop} {v0 : Nat} {v1 : Nat} {v2 : Int32} {v3 : Int32} {v4 : Nat} (k : (hK h v1 = 8) ∧ ((hK h v4 = 9) ∧ (WP d mX6_letBeat 4 [some (.ref v0), some (.ref v1), some (.int (v2 + (hI (sI h 906 v4 (hI h 810 v1)) 910 v4))), some (.int (v3 + (1 : Int32))), some (.ref v4)] [] (sF (sI h 906 v4 (hI h 810 v1)) 907 v4 (hF h 805 v1)) Q))) : WP d mX6_letBeat 87 [some (.ref v0), some (.ref v1), some (.int v2), some (.int v3), some (.ref v4)] [] h Q := by
  refine w_aload dX6_letBeat_87 rfl ?_
  refine w_aload_n dX6_letBeat_89 rfl ?_
  obtain ⟨g1, k⟩ := k
  refine w_getI dX6_letBeat_90 f_6_87 t_8_10 g1 ?_
  obtain ⟨g2, k⟩ := k
  refine w_putI dX6_letBeat_93 f_6_90 t_9_6 (pf_nf n_9_6) g2 ?_
  refine w_aload dX6_letBeat_96 rfl ?_
  refine w_aload_n dX6_letBeat_98 rfl ?_
  refine w_getF dX6_letBeat_99 f_6_91 t_8_5 g1 ?_
  refine w_putF dX6_letBeat_102 f_6_94 t_9_7 (pf_nf n_9_7) g2 ?_
  refine w_iload_n dX6_letBeat_105 rfl ?_
  refine w_aload dX6_letBeat_106 rfl ?_
  refine w_getI dX6_letBeat_108 f_6_95 t_9_10 g2 ?_
  refine w_iadd dX6_letBeat_111 ?_
  refine w_istore_n (lo' := [some (.ref v0), some (.ref v1), some (.int (v2 + (hI (sI h 906 v4 (hI h 810 v1)) 910 v4))), some (.int v3), some (.ref v4)]) dX6_letBeat_112 (ltQ rfl) rfl ?_
  refine w_iinc (lo' := [some (.ref v0), some (.ref v1), some (.int (v2 + (hI (sI h 906 v4 (hI h 810 v1)) 910 v4))), some (.int (v3 + (1 : Int32))), some (.ref v4)]) dX6_letBeat_113 rfl i1_1 rfl ?_
  refine w_goto (pc' := 4) dX6_letBeat_116 rfl rfl ?_
  exact k
theorem bX6_hear_0 {d : Nat} {h : HP} {Q : Out → HP → Prop} {v0 : Nat} {v1 : Nat} {u2 : Option Value} (k : (hK h v0 = 6) ∧ ((hK h v1 = 9) ∧ ((25 ≤ hK h (hR h 600 v0) ∧ hK h (hR h 600 v0) ≤ 29) ∧ ((inA h (hR h 600 v0) (hI h 902 v1) = true) ∧ ((1 < (hAR h (hR h 600 v0) ((hI h 902 v1)).toNatClampNeg)) ∧ ((hK h (hAR h (hR h 600 v0) ((hI h 902 v1)).toNatClampNeg) = 8) ∧ (WP d mX8_learnTerm 0 [some (.ref (hAR h (hR h 600 v0) ((hI h 902 v1)).toNatClampNeg)), some (.int (hI h 903 v1))] [] h (KK d mX6_hear mX8_learnTerm 15 [some (.ref v0), some (.ref v1), some (.ref (hAR h (hR h 600 v0) ((hI h 902 v1)).toNatClampNeg))] [] Q)))))))) : WP (d + 1) mX6_hear 0 [some (.ref v0), some (.ref v1), u2] [] h Q := by
  refine w_aload_n dX6_hear_0 rfl ?_
  obtain ⟨g1, k⟩ := k
  refine w_getR dX6_hear_1 f_6_9 t_6_0 g1 ?_
  refine w_aload_n dX6_hear_4 rfl ?_
  obtain ⟨g2, k⟩ := k
  refine w_getI dX6_hear_5 f_6_98 t_9_2 g2 ?_
  obtain ⟨g3, k⟩ := k
  obtain ⟨g4, k⟩ := k
  refine w_aaload dX6_hear_8 rfl g4 g3.1 g3.2 ?_
  refine w_astore_n (lo' := [some (.ref v0), some (.ref v1), some (.ref (hAR h (hR h 600 v0) ((hI h 902 v1)).toNatClampNeg))]) dX6_hear_9 (ltQ rfl) rfl ?_
  refine w_aload_n dX6_hear_10 rfl ?_
  refine w_aload_n dX6_hear_11 rfl ?_
  refine w_getI dX6_hear_12 f_6_101 t_9_3 g2 ?_
  obtain ⟨g5, k⟩ := k
  obtain ⟨g6, k⟩ := k
  exact w_virt (as1 := [.int (hI h 903 v1), .ref (hAR h (hR h 600 v0) ((hI h 902 v1)).toNatClampNeg)]) (as2 := [.ref (hAR h (hR h 600 v0) ((hI h 902 v1)).toNatClampNeg), .int (hI h 903 v1)]) (rest := []) (lo2 := [some (.ref (hAR h (hR h 600 v0) ((hI h 902 v1)).toNatClampNeg)), some (.int (hI h 903 v1))]) dX6_hear_15 c_6_102 rfl rfl rfl (Nat.le_of_ble_eq_true rfl) (Nat.le_of_ble_eq_true rfl) rfl (Nat.le_of_ble_eq_true rfl) rfl rfl g5 g6 k
theorem bX6_hear_18 {d : Nat} {h : HP} {Q : Out → HP → Prop} {v0 : Nat} {v1 : Nat} {v2 : Nat} (k : (hK h v1 = 9) ∧ ((((hI h 900 v1) = (0 : Int32)) → (1 < v0) ∧ ((hK h v0 = 6) ∧ (WP d mX6_hearAsk 0 [some (.ref v0), some (.ref v2), some (.ref v1), none] [] h (KK d mX6_hear mX6_hearAsk 55 [some (.ref v0), some (.ref v1), some (.ref v2)] [] Q)))) ∧ (((hI h 900 v1) = (1 : Int32)) → (1 < v0) ∧ ((hK h v0 = 6) ∧ (WP d mX6_hearVote 0 [some (.ref v0), some (.ref v2), some (.ref v1)] [] h (KK d mX6_hear mX6_hearVote 64 [some (.ref v0), some (.ref v1), some (.ref v2)] [] Q)))) ∧ (((hI h 900 v1) = (2 : Int32)) → (1 < v0) ∧ ((hK h v0 = 6) ∧ (WP d mX6_hearAppend 0 [some (.ref v0), some (.ref v2), some (.ref v1), none] [] h (KK d mX6_hear mX6_hearAppend 73 [some (.ref v0), some (.ref v1), some (.ref v2)] [] Q)))) ∧ (((hI h 900 v1) = (3 : Int32)) → (1 < v0) ∧ ((hK h v0 = 6) ∧ (WP d mX6_hearAck 0 [some (.ref v0), some (.ref v2), some (.ref v1)] [] h (KK d mX6_hear mX6_hearAck 82 [some (.ref v0), some (.ref v1), some (.ref v2)] [] Q)))) ∧ ((¬ (hI h 900 v1) = (0 : Int32) ∧ ¬ (hI h 900 v1) = (1 : Int32) ∧ ¬ (hI h 900 v1) = (2 : Int32) ∧ ¬ (hI h 900 v1) = (3 : Int32)) → Q (.inl none) h))) : WP (d + 1) mX6_hear 18 [some (.ref v0), some (.ref v1), some (.ref v2)] [] h Q := by
  refine w_aload_n dX6_hear_18 rfl ?_
  obtain ⟨g1, k⟩ := k
  refine w_getI dX6_hear_19 f_6_106 t_9_0 g1 ?_
  by_cases c0 : (hI h 900 v1) = (0 : Int32)
  · replace k := k.1 c0
    refine w_tsw (pc' := 52) dX6_hear_22 (by rw [c0]; rfl) ?_
    refine w_aload_n dX6_hear_52 rfl ?_
    refine w_aload_n dX6_hear_53 rfl ?_
    refine w_aload_n dX6_hear_54 rfl ?_
    obtain ⟨g2, k⟩ := k
    obtain ⟨g3, k⟩ := k
    exact w_virt (as1 := [.ref v1, .ref v2, .ref v0]) (as2 := [.ref v0, .ref v2, .ref v1]) (rest := []) (lo2 := [some (.ref v0), some (.ref v2), some (.ref v1), none]) dX6_hear_55 c_6_109 rfl rfl rfl (Nat.le_of_ble_eq_true rfl) (Nat.le_of_ble_eq_true rfl) rfl (Nat.le_of_ble_eq_true rfl) rfl rfl g2 g3 k
  replace k := k.2
  by_cases c1 : (hI h 900 v1) = (1 : Int32)
  · replace k := k.1 c1
    refine w_tsw (pc' := 61) dX6_hear_22 (by rw [c1]; rfl) ?_
    refine w_aload_n dX6_hear_61 rfl ?_
    refine w_aload_n dX6_hear_62 rfl ?_
    refine w_aload_n dX6_hear_63 rfl ?_
    obtain ⟨g4, k⟩ := k
    obtain ⟨g5, k⟩ := k
    exact w_virt (as1 := [.ref v1, .ref v2, .ref v0]) (as2 := [.ref v0, .ref v2, .ref v1]) (rest := []) (lo2 := [some (.ref v0), some (.ref v2), some (.ref v1)]) dX6_hear_64 c_6_113 rfl rfl rfl (Nat.le_of_ble_eq_true rfl) (Nat.le_of_ble_eq_true rfl) rfl (Nat.le_of_ble_eq_true rfl) rfl rfl g4 g5 k
  replace k := k.2
  by_cases c2 : (hI h 900 v1) = (2 : Int32)
  · replace k := k.1 c2
    refine w_tsw (pc' := 70) dX6_hear_22 (by rw [c2]; rfl) ?_
    refine w_aload_n dX6_hear_70 rfl ?_
    refine w_aload_n dX6_hear_71 rfl ?_
    refine w_aload_n dX6_hear_72 rfl ?_
    obtain ⟨g6, k⟩ := k
    obtain ⟨g7, k⟩ := k
    exact w_virt (as1 := [.ref v1, .ref v2, .ref v0]) (as2 := [.ref v0, .ref v2, .ref v1]) (rest := []) (lo2 := [some (.ref v0), some (.ref v2), some (.ref v1), none]) dX6_hear_73 c_6_116 rfl rfl rfl (Nat.le_of_ble_eq_true rfl) (Nat.le_of_ble_eq_true rfl) rfl (Nat.le_of_ble_eq_true rfl) rfl rfl g6 g7 k
  replace k := k.2
  by_cases c3 : (hI h 900 v1) = (3 : Int32)
  · replace k := k.1 c3
    refine w_tsw (pc' := 79) dX6_hear_22 (by rw [c3]; rfl) ?_
    refine w_aload_n dX6_hear_79 rfl ?_
    refine w_aload_n dX6_hear_80 rfl ?_
    refine w_aload_n dX6_hear_81 rfl ?_
    obtain ⟨g8, k⟩ := k
    obtain ⟨g9, k⟩ := k
    exact w_virt (as1 := [.ref v1, .ref v2, .ref v0]) (as2 := [.ref v0, .ref v2, .ref v1]) (rest := []) (lo2 := [some (.ref v0), some (.ref v2), some (.ref v1)]) dX6_hear_82 c_6_119 rfl rfl rfl (Nat.le_of_ble_eq_true rfl) (Nat.le_of_ble_eq_true rfl) rfl (Nat.le_of_ble_eq_true rfl) rfl rfl g8 g9 k
  replace k := k.2
  have e0 := ts_ne c0 (k := 0) rfl
  have e1 := ts_ne c1 (k := 1) rfl
  have e2 := ts_ne c2 (k := 2) rfl
  have e3 := ts_ne c3 (k := 3) rfl
  replace k := k ⟨c0, c1, c2, c3⟩
  refine w_tsw (pc' := 88) dX6_hear_22 (ts_def (x := (hI h 900 v1)) (by omega) rfl rfl) ?_
  exact w_return dX6_hear_88 rfl k
theorem bX6_hear_58 {d : Nat} {h : HP} {Q : Out → HP → Prop} {v0 : Nat} {v1 : Nat} {v2 : Nat} (k : Q (.inl none) h) : WP d mX6_hear 58 [some (.ref v0), some (.ref v1), some (.ref v2)] [] h Q := by
  refine w_goto (pc' := 88) dX6_hear_58 rfl rfl ?_
  exact w_return dX6_hear_88 rfl k
theorem bX6_hear_67 {d : Nat} {h : HP} {Q : Out → HP → Prop} {v0 : Nat} {v1 : Nat} {v2 : Nat} (k : Q (.inl none) h) : WP d mX6_hear 67 [some (.ref v0), some (.ref v1), some (.ref v2)] [] h Q := by
  refine w_goto (pc' := 88) dX6_hear_67 rfl rfl ?_
  exact w_return dX6_hear_88 rfl k
theorem bX6_hear_76 {d : Nat} {h : HP} {Q : Out → HP → Prop} {v0 : Nat} {v1 : Nat} {v2 : Nat} (k : Q (.inl none) h) : WP d mX6_hear 76 [some (.ref v0), some (.ref v1), some (.ref v2)] [] h Q := by
  refine w_goto (pc' := 88) dX6_hear_76 rfl rfl ?_
  exact w_return dX6_hear_88 rfl k
theorem bX6_hear_85 {d : Nat} {h : HP} {Q : Out → HP → Prop} {v0 : Nat} {v1 : Nat} {v2 : Nat} (k : Q (.inl none) h) : WP d mX6_hear 85 [some (.ref v0), some (.ref v1), some (.ref v2)] [] h Q := by
  refine w_goto (pc' := 88) dX6_hear_85 rfl rfl ?_
  exact w_return dX6_hear_88 rfl k
