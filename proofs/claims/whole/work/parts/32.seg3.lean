/-! ===== segments: what the program does from a place to the next ===== -/
theorem bX11_cut_0 {d : Nat} {h : HP} {Q : Out → HP → Prop} {v0 : Nat} {v1 : Int32} {v2 : Int32} (k : (1 < v0) ∧ ((hK h v0 = 11) ∧ (WP d mX11_needMachine 0 [some (.ref v0), some (.int v1)] [] h (KK d mX11_cut mX11_needMachine 2 [some (.ref v0), some (.int v1), some (.int v2)] [] Q)))) : WP (d + 1) mX11_cut 0 [some (.ref v0), some (.int v1), some (.int v2)] [] h Q := by
  refine w_aload_n dX11_cut_0 rfl ?_
  refine w_iload_n dX11_cut_1 rfl ?_
  obtain ⟨g1, k⟩ := k
  obtain ⟨g2, k⟩ := k
  exact w_virt (as1 := [.int v1, .ref v0]) (as2 := [.ref v0, .int v1]) (rest := []) (lo2 := [some (.ref v0), some (.int v1)]) dX11_cut_2 c_11_62 rfl rfl rfl (Nat.le_of_ble_eq_true rfl) (Nat.le_of_ble_eq_true rfl) rfl (Nat.le_of_ble_eq_true rfl) rfl rfl g1 g2 k
theorem bX11_cut_5 {d : Nat} {h : HP} {Q : Out → HP → Prop} {v0 : Nat} {v1 : Int32} {v2 : Int32} {s0 : Nat} (k : (1 < v0) ∧ ((hK h v0 = 11) ∧ (WP d mX11_needMachine 0 [some (.ref v0), some (.int v2)] [] h (KK d mX11_cut mX11_needMachine 8 [some (.ref v0), some (.int v1), some (.int v2)] [] Q)))) : WP (d + 1) mX11_cut 5 [some (.ref v0), some (.int v1), some (.int v2)] [.ref s0] h Q := by
  refine w_pop dX11_cut_5 rfl ?_
  refine w_aload_n dX11_cut_6 rfl ?_
  refine w_iload_n dX11_cut_7 rfl ?_
  obtain ⟨g1, k⟩ := k
  obtain ⟨g2, k⟩ := k
  exact w_virt (as1 := [.int v2, .ref v0]) (as2 := [.ref v0, .int v2]) (rest := []) (lo2 := [some (.ref v0), some (.int v2)]) dX11_cut_8 c_11_62 rfl rfl rfl (Nat.le_of_ble_eq_true rfl) (Nat.le_of_ble_eq_true rfl) rfl (Nat.le_of_ble_eq_true rfl) rfl rfl g1 g2 k
theorem bX11_cut_11 {d : Nat} {h : HP} {Q : Out → HP → Prop} {v0 : Nat} {v1 : Int32} {v2 : Int32} {s0 : Nat} (k : ((¬ v1 = v2) → (hK h v0 = 11) ∧ ((1 < (hR h 1104 v0)) ∧ ((hK h (hR h 1104 v0) = 4) ∧ (WP d mX4_goOn 0 [some (.ref (hR h 1104 v0))] [] h (KK d mX11_cut mX4_goOn 31 [some (.ref v0), some (.int v1), some (.int v2)] [] Q))))) ∧ ((¬ (¬ v1 = v2)) → Q (.inr 1) (thr h))) : WP (d + 1) mX11_cut 11 [some (.ref v0), some (.int v1), some (.int v2)] [.ref s0] h Q := by
  refine w_pop dX11_cut_11 rfl ?_
  refine w_iload_n dX11_cut_12 rfl ?_
  refine w_iload_n dX11_cut_13 rfl ?_
  refine w_ic_ne (pc' := 27) dX11_cut_14 rfl rfl ⟨fun c => ?_, fun c => ?_⟩
  · replace k := k.1 c
    refine w_aload_n dX11_cut_27 rfl ?_
    obtain ⟨g1, k⟩ := k
    refine w_getR dX11_cut_28 f_11_41 t_11_4 g1 ?_
    obtain ⟨g2, k⟩ := k
    obtain ⟨g3, k⟩ := k
    exact w_virt (as1 := [.ref (hR h 1104 v0)]) (as2 := [.ref (hR h 1104 v0)]) (rest := []) (lo2 := [some (.ref (hR h 1104 v0))]) dX11_cut_31 c_11_66 rfl rfl rfl (Nat.le_of_ble_eq_true rfl) (Nat.le_of_ble_eq_true rfl) rfl (Nat.le_of_ble_eq_true rfl) rfl rfl g2 g3 k
  · replace k := k.2 c
    exact w_thr dX11_cut_17 nx_11_51 tw_X11_cut_17 (Nat.le_of_ble_eq_true rfl) rfl rfl k
theorem bX11_cut_34 {d : Nat} {h : HP} {Q : Out → HP → Prop} {v0 : Nat} {v1 : Int32} {v2 : Int32} (k : (hK h v0 = 11) ∧ ((1 < (hR h 1101 v0)) ∧ ((hK h (hR h 1101 v0) = 10) ∧ (WP d mX10_switchCut 0 [some (.ref (hR h 1101 v0)), some (.int v1), some (.int v2), none] [] h (KK d mX11_cut mX10_switchCut 40 [some (.ref v0), some (.int v1), some (.int v2)] [] Q))))) : WP (d + 1) mX11_cut 34 [some (.ref v0), some (.int v1), some (.int v2)] [] h Q := by
  refine w_aload_n dX11_cut_34 rfl ?_
  obtain ⟨g1, k⟩ := k
  refine w_getR dX11_cut_35 f_11_18 t_11_1 g1 ?_
  refine w_iload_n dX11_cut_38 rfl ?_
  refine w_iload_n dX11_cut_39 rfl ?_
  obtain ⟨g2, k⟩ := k
  obtain ⟨g3, k⟩ := k
  exact w_virt (as1 := [.int v2, .int v1, .ref (hR h 1101 v0)]) (as2 := [.ref (hR h 1101 v0), .int v1, .int v2]) (rest := []) (lo2 := [some (.ref (hR h 1101 v0)), some (.int v1), some (.int v2), none]) dX11_cut_40 c_11_86 rfl rfl rfl (Nat.le_of_ble_eq_true rfl) (Nat.le_of_ble_eq_true rfl) rfl (Nat.le_of_ble_eq_true rfl) rfl rfl g2 g3 k
theorem bX11_cut_43 {d : Nat} {h : HP} {Q : Out → HP → Prop} {v0 : Nat} {v1 : Int32} {v2 : Int32} {s0 : Int32} (k : (isZ s0 = true) ∧ (Q (.inl (some (.int s0))) h)) : WP d mX11_cut 43 [some (.ref v0), some (.int v1), some (.int v2)] [.int s0] h Q := by
  obtain ⟨g1, k⟩ := k
  exact w_ireturn dX11_cut_43 g1 k
theorem bX11_rate_0 {d : Nat} {h : HP} {Q : Out → HP → Prop} {v0 : Nat} {v1 : Int32} {v2 : Int32} {u3 : Option Value} (k : (1 < v0) ∧ ((hK h v0 = 11) ∧ (WP d mX11_needMachine 0 [some (.ref v0), some (.int v1)] [] h (KK d mX11_rate mX11_needMachine 2 [some (.ref v0), some (.int v1), some (.int v2), u3] [] Q)))) : WP (d + 1) mX11_rate 0 [some (.ref v0), some (.int v1), some (.int v2), u3] [] h Q := by
  refine w_aload_n dX11_rate_0 rfl ?_
  refine w_iload_n dX11_rate_1 rfl ?_
  obtain ⟨g1, k⟩ := k
  obtain ⟨g2, k⟩ := k
  exact w_virt (as1 := [.int v1, .ref v0]) (as2 := [.ref v0, .int v1]) (rest := []) (lo2 := [some (.ref v0), some (.int v1)]) dX11_rate_2 c_11_62 rfl rfl rfl (Nat.le_of_ble_eq_true rfl) (Nat.le_of_ble_eq_true rfl) rfl (Nat.le_of_ble_eq_true rfl) rfl rfl g1 g2 k
theorem bX11_rate_5 {d : Nat} {h : HP} {Q : Out → HP → Prop} {v0 : Nat} {v1 : Int32} {v2 : Int32} {u3 : Option Value} {s0 : Nat} (k : WP d mX11_needRange 0 [some (.int v2), some (.int (500 : Int32)), some (.int (1500 : Int32))] [] h (KK d mX11_rate mX11_needRange 13 [some (.ref v0), some (.int v1), some (.int v2), some (.ref s0)] [] Q)) : WP (d + 1) mX11_rate 5 [some (.ref v0), some (.int v1), some (.int v2), u3] [.ref s0] h Q := by
  refine w_astore_n (lo' := [some (.ref v0), some (.int v1), some (.int v2), some (.ref s0)]) dX11_rate_5 (ltQ rfl) rfl ?_
  refine w_iload_n dX11_rate_6 rfl ?_
  refine w_sipush dX11_rate_7 i3_500 ?_
  refine w_sipush dX11_rate_10 i3_1500 ?_
  exact w_stat (as1 := [.int (1500 : Int32), .int (500 : Int32), .int v2]) (as2 := [.int v2, .int (500 : Int32), .int (1500 : Int32)]) (rest := []) (lo2 := [some (.int v2), some (.int (500 : Int32)), some (.int (1500 : Int32))]) dX11_rate_13 c_11_90 rfl rfl rfl (Nat.le_of_ble_eq_true rfl) (Nat.le_of_ble_eq_true rfl) rfl (Nat.le_of_ble_eq_true rfl) rfl k
theorem bX11_rate_16 {d : Nat} {h : HP} {Q : Out → HP → Prop} {v0 : Nat} {v1 : Int32} {v2 : Int32} {v3 : Nat} (k : (hK h v0 = 11) ∧ ((1 < (hR h 1104 v0)) ∧ ((hK h (hR h 1104 v0) = 4) ∧ (WP d mX4_goOn 0 [some (.ref (hR h 1104 v0))] [] h (KK d mX11_rate mX4_goOn 20 [some (.ref v0), some (.int v1), some (.int v2), some (.ref v3)] [] Q))))) : WP (d + 1) mX11_rate 16 [some (.ref v0), some (.int v1), some (.int v2), some (.ref v3)] [] h Q := by
  refine w_aload_n dX11_rate_16 rfl ?_
  obtain ⟨g1, k⟩ := k
  refine w_getR dX11_rate_17 f_11_41 t_11_4 g1 ?_
  obtain ⟨g2, k⟩ := k
  obtain ⟨g3, k⟩ := k
  exact w_virt (as1 := [.ref (hR h 1104 v0)]) (as2 := [.ref (hR h 1104 v0)]) (rest := []) (lo2 := [some (.ref (hR h 1104 v0))]) dX11_rate_20 c_11_66 rfl rfl rfl (Nat.le_of_ble_eq_true rfl) (Nat.le_of_ble_eq_true rfl) rfl (Nat.le_of_ble_eq_true rfl) rfl rfl g2 g3 k
theorem bX11_rate_23 {d : Nat} {h : HP} {Q : Out → HP → Prop} {v0 : Nat} {v1 : Int32} {v2 : Int32} {v3 : Nat} (k : (nn32 (FP.fdiv (FP.i2f v2) (1148846080 : UInt32)) = true) ∧ ((hK h v3 = 8) ∧ (Q (.inl (some (.float (hF (sF h 806 v3 (FP.fdiv (FP.i2f v2) (1148846080 : UInt32))) 805 v3)))) (sF h 806 v3 (FP.fdiv (FP.i2f v2) (1148846080 : UInt32)))))) : WP d mX11_rate 23 [some (.ref v0), some (.int v1), some (.int v2), some (.ref v3)] [] h Q := by
  refine w_aload_n dX11_rate_23 rfl ?_
  refine w_iload_n dX11_rate_24 rfl ?_
  refine w_i2f dX11_rate_25 ?_
  refine w_ldc dX11_rate_26 l_11_94 ?_
  obtain ⟨g1, k⟩ := k
  refine w_fdiv dX11_rate_28 g1 ?_
  obtain ⟨g2, k⟩ := k
  refine w_putF dX11_rate_29 f_11_95 t_8_6 (pf_nf n_8_6) g2 ?_
  refine w_aload_n dX11_rate_32 rfl ?_
  refine w_getF dX11_rate_33 f_11_98 t_8_5 g2 ?_
  exact w_freturn dX11_rate_36 rfl k
theorem bX11_spans_0 {d : Nat} {h : HP} {Q : Out → HP → Prop} {v0 : Nat} {v1 : Int32} {v2 : Int32} (k : WP d mX11_needRange 0 [some (.int v1), some (.int (1 : Int32)), some (.int (1000 : Int32))] [] h (KK d mX11_spans mX11_needRange 5 [some (.ref v0), some (.int v1), some (.int v2)] [] Q)) : WP (d + 1) mX11_spans 0 [some (.ref v0), some (.int v1), some (.int v2)] [] h Q := by
  refine w_iload_n dX11_spans_0 rfl ?_
  refine w_iconst dX11_spans_1 i1_1 ?_
  refine w_sipush dX11_spans_2 i3_1000 ?_
  exact w_stat (as1 := [.int (1000 : Int32), .int (1 : Int32), .int v1]) (as2 := [.int v1, .int (1 : Int32), .int (1000 : Int32)]) (rest := []) (lo2 := [some (.int v1), some (.int (1 : Int32)), some (.int (1000 : Int32))]) dX11_spans_5 c_11_90 rfl rfl rfl (Nat.le_of_ble_eq_true rfl) (Nat.le_of_ble_eq_true rfl) rfl (Nat.le_of_ble_eq_true rfl) rfl k
theorem bX11_spans_8 {d : Nat} {h : HP} {Q : Out → HP → Prop} {v0 : Nat} {v1 : Int32} {v2 : Int32} (k : WP d mX11_needRange 0 [some (.int v2), some (.int (0 : Int32)), some (.int (90 : Int32))] [] h (KK d mX11_spans mX11_needRange 12 [some (.ref v0), some (.int v1), some (.int v2)] [] Q)) : WP (d + 1) mX11_spans 8 [some (.ref v0), some (.int v1), some (.int v2)] [] h Q := by
  refine w_iload_n dX11_spans_8 rfl ?_
  refine w_iconst dX11_spans_9 i1_0 ?_
  refine w_bipush dX11_spans_10 i2_90 ?_
  exact w_stat (as1 := [.int (90 : Int32), .int (0 : Int32), .int v2]) (as2 := [.int v2, .int (0 : Int32), .int (90 : Int32)]) (rest := []) (lo2 := [some (.int v2), some (.int (0 : Int32)), some (.int (90 : Int32))]) dX11_spans_12 c_11_90 rfl rfl rfl (Nat.le_of_ble_eq_true rfl) (Nat.le_of_ble_eq_true rfl) rfl (Nat.le_of_ble_eq_true rfl) rfl k
theorem bX11_spans_15 {d : Nat} {h : HP} {Q : Out → HP → Prop} {v0 : Nat} {v1 : Int32} {v2 : Int32} (k : (hK h v0 = 11) ∧ ((1 < (hR h 1104 v0)) ∧ ((hK h (hR h 1104 v0) = 4) ∧ (WP d mX4_goOn 0 [some (.ref (hR h 1104 v0))] [] h (KK d mX11_spans mX4_goOn 19 [some (.ref v0), some (.int v1), some (.int v2)] [] Q))))) : WP (d + 1) mX11_spans 15 [some (.ref v0), some (.int v1), some (.int v2)] [] h Q := by
  refine w_aload_n dX11_spans_15 rfl ?_
  obtain ⟨g1, k⟩ := k
  refine w_getR dX11_spans_16 f_11_41 t_11_4 g1 ?_
  obtain ⟨g2, k⟩ := k
  obtain ⟨g3, k⟩ := k
  exact w_virt (as1 := [.ref (hR h 1104 v0)]) (as2 := [.ref (hR h 1104 v0)]) (rest := []) (lo2 := [some (.ref (hR h 1104 v0))]) dX11_spans_19 c_11_66 rfl rfl rfl (Nat.le_of_ble_eq_true rfl) (Nat.le_of_ble_eq_true rfl) rfl (Nat.le_of_ble_eq_true rfl) rfl rfl g2 g3 k
theorem bX11_spans_22 {d : Nat} {h : HP} {Q : Out → HP → Prop} {v0 : Nat} {v1 : Int32} {v2 : Int32} (k : (hK h v0 = 11) ∧ ((nn32 (FP.fdiv (FP.i2f v1) (1092616192 : UInt32)) = true) ∧ ((hK h (hR h 1102 v0) = 6) ∧ ((nn32 (FP.fdiv (FP.i2f v2) (1120403456 : UInt32)) = true) ∧ (Q (.inl none) (sF (sF h 602 (hR h 1102 v0) (FP.fdiv (FP.i2f v1) (1092616192 : UInt32))) 603 (hR h 1102 v0) (FP.fdiv (FP.i2f v2) (1120403456 : UInt32)))))))) : WP d mX11_spans 22 [some (.ref v0), some (.int v1), some (.int v2)] [] h Q := by
  refine w_aload_n dX11_spans_22 rfl ?_
  obtain ⟨g1, k⟩ := k
  refine w_getR dX11_spans_23 f_11_27 t_11_2 g1 ?_
  refine w_iload_n dX11_spans_26 rfl ?_
  refine w_i2f dX11_spans_27 ?_
  refine w_ldc dX11_spans_28 l_11_101 ?_
  obtain ⟨g2, k⟩ := k
  refine w_fdiv dX11_spans_30 g2 ?_
  obtain ⟨g3, k⟩ := k
  refine w_putF dX11_spans_31 f_11_76 t_6_2 (pf_nf n_6_2) g3 ?_
  refine w_aload_n dX11_spans_34 rfl ?_
  refine w_getR dX11_spans_35 f_11_27 t_11_2 g1 ?_
  refine w_iload_n dX11_spans_38 rfl ?_
  refine w_i2f dX11_spans_39 ?_
  refine w_ldc dX11_spans_40 l_11_102 ?_
  obtain ⟨g4, k⟩ := k
  refine w_fdiv dX11_spans_42 g4 ?_
  refine w_putF dX11_spans_43 f_11_103 t_6_3 (pf_nf n_6_3) g3 ?_
  exact w_return dX11_spans_46 rfl k
theorem bX11_pass_0 {d : Nat} {h : HP} {Q : Out → HP → Prop} {v0 : Nat} {v1 : Int32} {u2 : Option Value} {u3 : Option Value} (k : WP d mX11_needRange 0 [some (.int v1), some (.int (1 : Int32)), some (.int (1000 : Int32))] [] h (KK d mX11_pass mX11_needRange 5 [some (.ref v0), some (.int v1), u2, u3] [] Q)) : WP (d + 1) mX11_pass 0 [some (.ref v0), some (.int v1), u2, u3] [] h Q := by
  refine w_iload_n dX11_pass_0 rfl ?_
  refine w_iconst dX11_pass_1 i1_1 ?_
  refine w_sipush dX11_pass_2 i3_1000 ?_
  exact w_stat (as1 := [.int (1000 : Int32), .int (1 : Int32), .int v1]) (as2 := [.int v1, .int (1 : Int32), .int (1000 : Int32)]) (rest := []) (lo2 := [some (.int v1), some (.int (1 : Int32)), some (.int (1000 : Int32))]) dX11_pass_5 c_11_90 rfl rfl rfl (Nat.le_of_ble_eq_true rfl) (Nat.le_of_ble_eq_true rfl) rfl (Nat.le_of_ble_eq_true rfl) rfl k
theorem bX11_pass_8 {d : Nat} {h : HP} {Q : Out → HP → Prop} {v0 : Nat} {v1 : Int32} {u2 : Option Value} {u3 : Option Value} (k : (hK h v0 = 11) ∧ ((1 < (hR h 1104 v0)) ∧ ((hK h (hR h 1104 v0) = 4) ∧ (WP d mX4_goOn 0 [some (.ref (hR h 1104 v0))] [] h (KK d mX11_pass mX4_goOn 12 [some (.ref v0), some (.int v1), u2, u3] [] Q))))) : WP (d + 1) mX11_pass 8 [some (.ref v0), some (.int v1), u2, u3] [] h Q := by
  refine w_aload_n dX11_pass_8 rfl ?_
  obtain ⟨g1, k⟩ := k
  refine w_getR dX11_pass_9 f_11_41 t_11_4 g1 ?_
  obtain ⟨g2, k⟩ := k
  obtain ⟨g3, k⟩ := k
  exact w_virt (as1 := [.ref (hR h 1104 v0)]) (as2 := [.ref (hR h 1104 v0)]) (rest := []) (lo2 := [some (.ref (hR h 1104 v0))]) dX11_pass_12 c_11_66 rfl rfl rfl (Nat.le_of_ble_eq_true rfl) (Nat.le_of_ble_eq_true rfl) rfl (Nat.le_of_ble_eq_true rfl) rfl rfl g2 g3 k
theorem bX11_pass_15 {d : Nat} {h : HP} {Q : Out → HP → Prop} {v0 : Nat} {v1 : Int32} {u2 : Option Value} {u3 : Option Value} (k : (nn32 (FP.fdiv (FP.i2f v1) (1092616192 : UInt32)) = true) ∧ ((hK h v0 = 11) ∧ ((nn32 (FP.fadd (hF h 1105 v0) (FP.fdiv (FP.i2f v1) (1092616192 : UInt32))) = true) ∧ (WP d mX11_pass 33 [some (.ref v0), some (.int v1), some (.float (FP.fdiv (FP.i2f v1) (1092616192 : UInt32))), some (.int (0 : Int32))] [] (sF h 1105 v0 (FP.fadd (hF h 1105 v0) (FP.fdiv (FP.i2f v1) (1092616192 : UInt32)))) Q)))) : WP d mX11_pass 15 [some (.ref v0), some (.int v1), u2, u3] [] h Q := by
  refine w_iload_n dX11_pass_15 rfl ?_
  refine w_i2f dX11_pass_16 ?_
  refine w_ldc dX11_pass_17 l_11_101 ?_
  obtain ⟨g1, k⟩ := k
  refine w_fdiv dX11_pass_19 g1 ?_
  refine w_fstore_n (lo' := [some (.ref v0), some (.int v1), some (.float (FP.fdiv (FP.i2f v1) (1092616192 : UInt32))), u3]) dX11_pass_20 (ltQ rfl) rfl ?_
  refine w_aload_n dX11_pass_21 rfl ?_
  refine w_aload_n dX11_pass_22 rfl ?_
  obtain ⟨g2, k⟩ := k
  refine w_getF dX11_pass_23 f_11_106 t_11_5 g2 ?_
  refine w_fload_n dX11_pass_26 rfl ?_
  obtain ⟨g3, k⟩ := k
  refine w_fadd dX11_pass_27 g3 ?_
  refine w_putF dX11_pass_28 f_11_106 t_11_5 (pf_nf n_11_5) g2 ?_
  refine w_iconst dX11_pass_31 i1_0 ?_
  refine w_istore_n (lo' := [some (.ref v0), some (.int v1), some (.float (FP.fdiv (FP.i2f v1) (1092616192 : UInt32))), some (.int (0 : Int32))]) dX11_pass_32 (ltQ rfl) rfl ?_
  exact k
theorem bX11_pass_33 {d : Nat} {h : HP} {Q : Out → HP → Prop} {v0 : Nat} {v1 : Int32} {v2 : UInt32} {v3 : Int32} (k : (hK h v0 = 11) ∧ ((hK h (hR h 1101 v0) = 10) ∧ ((((hI h 1000 (hR h 1101 v0)) ≤ v3) → Q (.inl (some (.float (hF h 1105 v0)))) h) ∧ ((¬ ((hI h 1000 (hR h 1101 v0)) ≤ v3)) → (25 ≤ hK h (hR h 1100 v0) ∧ hK h (hR h 1100 v0) ≤ 29) ∧ ((inA h (hR h 1100 v0) v3 = true) ∧ ((1 < (hAR h (hR h 1100 v0) (v3).toNatClampNeg)) ∧ ((hK h (hAR h (hR h 1100 v0) (v3).toNatClampNeg) = 8) ∧ (WP d mX8_letPass 0 [some (.ref (hAR h (hR h 1100 v0) (v3).toNatClampNeg)), some (.float v2)] [] h (KK d mX11_pass mX8_letPass 51 [some (.ref v0), some (.int v1), some (.float v2), some (.int v3)] [] Q))))))))) : WP (d + 1) mX11_pass 33 [some (.ref v0), some (.int v1), some (.float v2), some (.int v3)] [] h Q := by
  refine w_iload_n dX11_pass_33 rfl ?_
  refine w_aload_n dX11_pass_34 rfl ?_
  obtain ⟨g1, k⟩ := k
  refine w_getR dX11_pass_35 f_11_18 t_11_1 g1 ?_
  obtain ⟨g2, k⟩ := k
  refine w_getI dX11_pass_38 f_11_58 t_10_0 g2 ?_
  refine w_ic_ge (pc' := 60) dX11_pass_41 rfl rfl ⟨fun c => ?_, fun c => ?_⟩
  · replace k := k.1 c
    refine w_aload_n dX11_pass_60 rfl ?_
    refine w_getF dX11_pass_61 f_11_106 t_11_5 g1 ?_
    exact w_freturn dX11_pass_64 rfl k
  · replace k := k.2 c
    refine w_aload_n dX11_pass_44 rfl ?_
    refine w_getR dX11_pass_45 f_11_11 t_11_0 g1 ?_
    refine w_iload_n dX11_pass_48 rfl ?_
    obtain ⟨g3, k⟩ := k
    obtain ⟨g4, k⟩ := k
    refine w_aaload dX11_pass_49 rfl g4 g3.1 g3.2 ?_
    refine w_fload_n dX11_pass_50 rfl ?_
    obtain ⟨g5, k⟩ := k
    obtain ⟨g6, k⟩ := k
    exact w_virt (as1 := [.float v2, .ref (hAR h (hR h 1100 v0) (v3).toNatClampNeg)]) (as2 := [.ref (hAR h (hR h 1100 v0) (v3).toNatClampNeg), .float v2]) (rest := []) (lo2 := [some (.ref (hAR h (hR h 1100 v0) (v3).toNatClampNeg)), some (.float v2)]) dX11_pass_51 c_11_109 rfl rfl rfl (Nat.le_of_ble_eq_true rfl) (Nat.le_of_ble_eq_true rfl) rfl (Nat.le_of_ble_eq_true rfl) rfl rfl g5 g6 k
theorem bX11_pass_54 {d : Nat} {h : HP} {Q : Out → HP → Prop} {v0 : Nat} {v1 : Int32} {v2 : UInt32} {v3 : Int32} (k : WP d mX11_pass 33 [some (.ref v0), some (.int v1), some (.float v2), some (.int (v3 + (1 : Int32)))] [] h Q) : WP d mX11_pass 54 [some (.ref v0), some (.int v1), some (.float v2), some (.int v3)] [] h Q := by
  refine w_iinc (lo' := [some (.ref v0), some (.int v1), some (.float v2), some (.int (v3 + (1 : Int32)))]) dX11_pass_54 rfl i1_1 rfl ?_
  refine w_goto (pc' := 33) dX11_pass_57 rfl rfl ?_
  exact k
theorem bX11_deliver_0 {d : Nat} {h : HP} {Q : Out → HP → Prop} {v0 : Nat} {v1 : Int32} {u2 : Option Value} {u3 : Option Value} (k : (1 < v0) ∧ ((hK h v0 = 11) ∧ (WP d mX11_needMessage 0 [some (.ref v0), some (.int v1), none] [] h (KK d mX11_deliver mX11_needMessage 2 [some (.ref v0), some (.int v1), u2, u3] [] Q)))) : WP (d + 1) mX11_deliver 0 [some (.ref v0), some (.int v1), u2, u3] [] h Q := by
  refine w_aload_n dX11_deliver_0 rfl ?_
  refine w_iload_n dX11_deliver_1 rfl ?_
  obtain ⟨g1, k⟩ := k
  obtain ⟨g2, k⟩ := k
  exact w_virt (as1 := [.int v1, .ref v0]) (as2 := [.ref v0, .int v1]) (rest := []) (lo2 := [some (.ref v0), some (.int v1), none]) dX11_deliver_2 c_11_112 rfl rfl rfl (Nat.le_of_ble_eq_true rfl) (Nat.le_of_ble_eq_true rfl) rfl (Nat.le_of_ble_eq_true rfl) rfl rfl g1 g2 k
theorem bX11_deliver_5 {d : Nat} {h : HP} {Q : Out → HP → Prop} {v0 : Nat} {v1 : Int32} {u2 : Option Value} {u3 : Option Value} {s0 : Nat} (k : (hK h v0 = 11) ∧ ((hK h s0 = 9) ∧ ((25 ≤ hK h (hR h 1100 v0) ∧ hK h (hR h 1100 v0) ≤ 29) ∧ ((inA h (hR h 1100 v0) (hI h 902 s0) = true) ∧ ((hK h (hAR h (hR h 1100 v0) ((hI h 902 s0)).toNatClampNeg) = 8) ∧ ((((hI h 804 (hAR h (hR h 1100 v0) ((hI h 902 s0)).toNatClampNeg)) = 0) → Q (.inr 2) (thr h)) ∧ ((¬ ((hI h 804 (hAR h (hR h 1100 v0) ((hI h 902 s0)).toNatClampNeg)) = 0)) → (1 < (hR h 1101 v0)) ∧ ((hK h (hR h 1101 v0) = 10) ∧ (WP d mX10_isCut 0 [some (.ref (hR h 1101 v0)), some (.int (hI h 901 s0)), some (.int (hI h 902 s0))] [] h (KK d mX11_deliver mX10_isCut 33 [some (.ref v0), some (.int v1), some (.ref s0), u3] [] Q)))))))))) : WP (d + 1) mX11_deliver 5 [some (.ref v0), some (.int v1), u2, u3] [.ref s0] h Q := by
  refine w_astore_n (lo' := [some (.ref v0), some (.int v1), some (.ref s0), u3]) dX11_deliver_5 (ltQ rfl) rfl ?_
  refine w_aload_n dX11_deliver_6 rfl ?_
  obtain ⟨g1, k⟩ := k
  refine w_getR dX11_deliver_7 f_11_11 t_11_0 g1 ?_
  refine w_aload_n dX11_deliver_10 rfl ?_
  obtain ⟨g2, k⟩ := k
  refine w_getI dX11_deliver_11 f_11_116 t_9_2 g2 ?_
  obtain ⟨g3, k⟩ := k
  obtain ⟨g4, k⟩ := k
  refine w_aaload dX11_deliver_14 rfl g4 g3.1 g3.2 ?_
  obtain ⟨g5, k⟩ := k
  refine w_getZ dX11_deliver_15 f_11_69 t_8_4 g5 ?_
  refine w_if_eq (pc' := 39) dX11_deliver_18 rfl rfl ⟨fun c => ?_, fun c => ?_⟩
  · replace k := k.1 c
    exact w_thr dX11_deliver_39 nx_11_127 tw_X11_deliver_39 (Nat.le_of_ble_eq_true rfl) rfl rfl k
  · replace k := k.2 c
    refine w_aload_n dX11_deliver_21 rfl ?_
    refine w_getR dX11_deliver_22 f_11_18 t_11_1 g1 ?_
    refine w_aload_n dX11_deliver_25 rfl ?_
    refine w_getI dX11_deliver_26 f_11_121 t_9_1 g2 ?_
    refine w_aload_n dX11_deliver_29 rfl ?_
    refine w_getI dX11_deliver_30 f_11_116 t_9_2 g2 ?_
    obtain ⟨g6, k⟩ := k
    obtain ⟨g7, k⟩ := k
    exact w_virt (as1 := [.int (hI h 902 s0), .int (hI h 901 s0), .ref (hR h 1101 v0)]) (as2 := [.ref (hR h 1101 v0), .int (hI h 901 s0), .int (hI h 902 s0)]) (rest := []) (lo2 := [some (.ref (hR h 1101 v0)), some (.int (hI h 901 s0)), some (.int (hI h 902 s0))]) dX11_deliver_33 c_11_124 rfl rfl rfl (Nat.le_of_ble_eq_true rfl) (Nat.le_of_ble_eq_true rfl) rfl (Nat.le_of_ble_eq_true rfl) rfl rfl g6 g7 k
theorem bX11_deliver_36 {d : Nat} {h : HP} {Q : Out → HP → Prop} {v0 : Nat} {v1 : Int32} {v2 : Nat} {u3 : Option Value} {s0 : Int32} (k : ((s0 = 0) → (hK h v0 = 11) ∧ ((1 < (hR h 1104 v0)) ∧ ((hK h (hR h 1104 v0) = 4) ∧ (WP d mX4_goOn 0 [some (.ref (hR h 1104 v0))] [] h (KK d mX11_deliver mX4_goOn 53 [some (.ref v0), some (.int v1), some (.ref v2), u3] [] Q))))) ∧ ((¬ (s0 = 0)) → Q (.inr 2) (thr h))) : WP (d + 1) mX11_deliver 36 [some (.ref v0), some (.int v1), some (.ref v2), u3] [.int s0] h Q := by
  refine w_if_eq (pc' := 49) dX11_deliver_36 rfl rfl ⟨fun c => ?_, fun c => ?_⟩
  · replace k := k.1 c
    refine w_aload_n dX11_deliver_49 rfl ?_
    obtain ⟨g1, k⟩ := k
    refine w_getR dX11_deliver_50 f_11_41 t_11_4 g1 ?_
    obtain ⟨g2, k⟩ := k
    obtain ⟨g3, k⟩ := k
    exact w_virt (as1 := [.ref (hR h 1104 v0)]) (as2 := [.ref (hR h 1104 v0)]) (rest := []) (lo2 := [some (.ref (hR h 1104 v0))]) dX11_deliver_53 c_11_66 rfl rfl rfl (Nat.le_of_ble_eq_true rfl) (Nat.le_of_ble_eq_true rfl) rfl (Nat.le_of_ble_eq_true rfl) rfl rfl g2 g3 k
  · replace k := k.2 c
    exact w_thr dX11_deliver_39 nx_11_127 tw_X11_deliver_39 (Nat.le_of_ble_eq_true rfl) rfl rfl k
theorem bX11_deliver_56 {d : Nat} {h : HP} {Q : Out → HP → Prop} {v0 : Nat} {v1 : Int32} {v2 : Nat} {u3 : Option Value} (k : (hK h v0 = 11) ∧ ((1 < (hR h 1101 v0)) ∧ ((hK h (hR h 1101 v0) = 10) ∧ (WP d mX10_takeOut 0 [some (.ref (hR h 1101 v0)), some (.int v1), none, none] [] h (KK d mX11_deliver mX10_takeOut 61 [some (.ref v0), some (.int v1), some (.ref v2), u3] [] Q))))) : WP (d + 1) mX11_deliver 56 [some (.ref v0), some (.int v1), some (.ref v2), u3] [] h Q := by
  refine w_aload_n dX11_deliver_56 rfl ?_
  obtain ⟨g1, k⟩ := k
  refine w_getR dX11_deliver_57 f_11_18 t_11_1 g1 ?_
  refine w_iload_n dX11_deliver_60 rfl ?_
  obtain ⟨g2, k⟩ := k
  obtain ⟨g3, k⟩ := k
  exact w_virt (as1 := [.int v1, .ref (hR h 1101 v0)]) (as2 := [.ref (hR h 1101 v0), .int v1]) (rest := []) (lo2 := [some (.ref (hR h 1101 v0)), some (.int v1), none, none]) dX11_deliver_61 c_11_132 rfl rfl rfl (Nat.le_of_ble_eq_true rfl) (Nat.le_of_ble_eq_true rfl) rfl (Nat.le_of_ble_eq_true rfl) rfl rfl g2 g3 k
theorem bX11_deliver_64 {d : Nat} {h : HP} {Q : Out → HP → Prop} {v0 : Nat} {v1 : Int32} {v2 : Nat} {u3 : Option Value} (k : (hK h v0 = 11) ∧ ((hK h (hR h 1101 v0) = 10) ∧ ((hK h v2 = 9) ∧ ((((3 : Int32) < (hI (sI h 1002 (hR h 1101 v0) (0 : Int32)) 900 v2)) → (1 < (hR h 1103 v0)) ∧ ((hK h (hR h 1103 v0) = 1) ∧ (WP d mX1_hear 0 [some (.ref (hR h 1103 v0)), some (.ref v2), none, none] [] (sI h 1002 (hR h 1101 v0) (0 : Int32)) (KK d mX11_deliver mX1_hear 96 [some (.ref v0), some (.int v1), some (.ref v2), u3] [] Q)))) ∧ ((¬ ((3 : Int32) < (hI (sI h 1002 (hR h 1101 v0) (0 : Int32)) 900 v2))) → (1 < (hR h 1102 v0)) ∧ ((hK h (hR h 1102 v0) = 6) ∧ (WP d mX6_hear 0 [some (.ref (hR h 1102 v0)), some (.ref v2), none] [] (sI h 1002 (hR h 1101 v0) (0 : Int32)) (KK d mX11_deliver mX6_hear 85 [some (.ref v0), some (.int v1), some (.ref v2), u3] [] Q)))))))) : WP (d + 1) mX11_deliver 64 [some (.ref v0), some (.int v1), some (.ref v2), u3] [] h Q := by
  refine w_aload_n dX11_deliver_64 rfl ?_
  obtain ⟨g1, k⟩ := k
  refine w_getR dX11_deliver_65 f_11_18 t_11_1 g1 ?_
  refine w_iconst dX11_deliver_68 i1_0 ?_
  obtain ⟨g2, k⟩ := k
  refine w_putI dX11_deliver_69 f_11_135 t_10_2 (pf_nf n_10_2) g2 ?_
  refine w_aload_n dX11_deliver_72 rfl ?_
  obtain ⟨g3, k⟩ := k
  refine w_getI dX11_deliver_73 f_11_138 t_9_0 g3 ?_
  refine w_iconst dX11_deliver_76 i1_3 ?_
  refine w_ic_gt (pc' := 91) dX11_deliver_77 rfl rfl ⟨fun c => ?_, fun c => ?_⟩
  · replace k := k.1 c
    refine w_aload_n dX11_deliver_91 rfl ?_
    refine w_getR dX11_deliver_92 f_11_34 t_11_3 g1 ?_
    refine w_aload_n dX11_deliver_95 rfl ?_
    obtain ⟨g4, k⟩ := k
    obtain ⟨g5, k⟩ := k
    exact w_virt (as1 := [.ref v2, .ref (hR h 1103 v0)]) (as2 := [.ref (hR h 1103 v0), .ref v2]) (rest := []) (lo2 := [some (.ref (hR h 1103 v0)), some (.ref v2), none, none]) dX11_deliver_96 c_11_145 rfl rfl rfl (Nat.le_of_ble_eq_true rfl) (Nat.le_of_ble_eq_true rfl) rfl (Nat.le_of_ble_eq_true rfl) rfl rfl g4 g5 k
  · replace k := k.2 c
    refine w_aload_n dX11_deliver_80 rfl ?_
    refine w_getR dX11_deliver_81 f_11_27 t_11_2 g1 ?_
    refine w_aload_n dX11_deliver_84 rfl ?_
    obtain ⟨g6, k⟩ := k
    obtain ⟨g7, k⟩ := k
    exact w_virt (as1 := [.ref v2, .ref (hR h 1102 v0)]) (as2 := [.ref (hR h 1102 v0), .ref v2]) (rest := []) (lo2 := [some (.ref (hR h 1102 v0)), some (.ref v2), none]) dX11_deliver_85 c_11_141 rfl rfl rfl (Nat.le_of_ble_eq_true rfl) (Nat.le_of_ble_eq_true rfl) rfl (Nat.le_of_ble_eq_true rfl) rfl rfl g6 g7 k
theorem bX11_deliver_88 {d : Nat} {h : HP} {Q : Out → HP → Prop} {v0 : Nat} {v1 : Int32} {v2 : Nat} {u3 : Option Value} (k : WP d mX11_deliver 99 [some (.ref v0), some (.int v1), some (.ref v2), u3] [] h Q) : WP d mX11_deliver 88 [some (.ref v0), some (.int v1), some (.ref v2), u3] [] h Q := by
  refine w_goto (pc' := 99) dX11_deliver_88 rfl rfl ?_
  exact k
theorem bX11_deliver_99 {d : Nat} {h : HP} {Q : Out → HP → Prop} {v0 : Nat} {v1 : Int32} {v2 : Nat} {u3 : Option Value} (k : WP d mX11_deliver 101 [some (.ref v0), some (.int v1), some (.ref v2), some (.int (0 : Int32))] [] h Q) : WP d mX11_deliver 99 [some (.ref v0), some (.int v1), some (.ref v2), u3] [] h Q := by
  refine w_iconst dX11_deliver_99 i1_0 ?_
  refine w_istore_n (lo' := [some (.ref v0), some (.int v1), some (.ref v2), some (.int (0 : Int32))]) dX11_deliver_100 (ltQ rfl) rfl ?_
  exact k
theorem bX11_deliver_101 {d : Nat} {h : HP} {Q : Out → HP → Prop} {v0 : Nat} {v1 : Int32} {v2 : Nat} {v3 : Int32} (k : (hK h v0 = 11) ∧ ((hK h (hR h 1101 v0) = 10) ∧ ((((hI h 1000 (hR h 1101 v0)) ≤ v3) → Q (.inl (some (.int (hI h 1002 (hR h 1101 v0))))) h) ∧ ((¬ ((hI h 1000 (hR h 1101 v0)) ≤ v3)) → (25 ≤ hK h (hR h 1100 v0) ∧ hK h (hR h 1100 v0) ≤ 29) ∧ ((inA h (hR h 1100 v0) v3 = true) ∧ ((1 < (hR h 1104 v0)) ∧ ((hK h (hR h 1104 v0) = 4) ∧ (WP d mX4_answerWrites 0 [some (.ref (hR h 1104 v0)), some (.ref (hAR h (hR h 1100 v0) (v3).toNatClampNeg)), none, none] [] h (KK d mX11_deliver mX4_answerWrites 122 [some (.ref v0), some (.int v1), some (.ref v2), some (.int v3)] [] Q))))))))) : WP (d + 1) mX11_deliver 101 [some (.ref v0), some (.int v1), some (.ref v2), some (.int v3)] [] h Q := by
  refine w_iload_n dX11_deliver_101 rfl ?_
  refine w_aload_n dX11_deliver_102 rfl ?_
  obtain ⟨g1, k⟩ := k
  refine w_getR dX11_deliver_103 f_11_18 t_11_1 g1 ?_
  obtain ⟨g2, k⟩ := k
  refine w_getI dX11_deliver_106 f_11_58 t_10_0 g2 ?_
  refine w_ic_ge (pc' := 131) dX11_deliver_109 rfl rfl ⟨fun c => ?_, fun c => ?_⟩
  · replace k := k.1 c
    refine w_aload_n dX11_deliver_131 rfl ?_
    refine w_getR dX11_deliver_132 f_11_18 t_11_1 g1 ?_
    refine w_getI dX11_deliver_135 f_11_135 t_10_2 g2 ?_
    exact w_ireturn dX11_deliver_138 rfl k
  · replace k := k.2 c
    refine w_aload_n dX11_deliver_112 rfl ?_
    refine w_getR dX11_deliver_113 f_11_41 t_11_4 g1 ?_
    refine w_aload_n dX11_deliver_116 rfl ?_
    refine w_getR dX11_deliver_117 f_11_11 t_11_0 g1 ?_
    refine w_iload_n dX11_deliver_120 rfl ?_
    obtain ⟨g3, k⟩ := k
    obtain ⟨g4, k⟩ := k
    refine w_aaload dX11_deliver_121 rfl g4 g3.1 g3.2 ?_
    obtain ⟨g5, k⟩ := k
    obtain ⟨g6, k⟩ := k
    exact w_virt (as1 := [.ref (hAR h (hR h 1100 v0) (v3).toNatClampNeg), .ref (hR h 1104 v0)]) (as2 := [.ref (hR h 1104 v0), .ref (hAR h (hR h 1100 v0) (v3).toNatClampNeg)]) (rest := []) (lo2 := [some (.ref (hR h 1104 v0)), some (.ref (hAR h (hR h 1100 v0) (v3).toNatClampNeg)), none, none]) dX11_deliver_122 c_11_146 rfl rfl rfl (Nat.le_of_ble_eq_true rfl) (Nat.le_of_ble_eq_true rfl) rfl (Nat.le_of_ble_eq_true rfl) rfl rfl g5 g6 k
theorem bX11_deliver_125 {d : Nat} {h : HP} {Q : Out → HP → Prop} {v0 : Nat} {v1 : Int32} {v2 : Nat} {v3 : Int32} (k : WP d mX11_deliver 101 [some (.ref v0), some (.int v1), some (.ref v2), some (.int (v3 + (1 : Int32)))] [] h Q) : WP d mX11_deliver 125 [some (.ref v0), some (.int v1), some (.ref v2), some (.int v3)] [] h Q := by
  refine w_iinc (lo' := [some (.ref v0), some (.int v1), some (.ref v2), some (.int (v3 + (1 : Int32)))]) dX11_deliver_125 rfl i1_1 rfl ?_
  refine w_goto (pc' := 101) dX11_deliver_128 rfl rfl ?_
  exact k
theorem bX11_lose_0 {d : Nat} {h : HP} {Q : Out → HP → Prop} {v0 : Nat} {v1 : Int32} (k : (1 < v0) ∧ ((hK h v0 = 11) ∧ (WP d mX11_needMessage 0 [some (.ref v0), some (.int v1), none] [] h (KK d mX11_lose mX11_needMessage 2 [some (.ref v0), some (.int v1)] [] Q)))) : WP (d + 1) mX11_lose 0 [some (.ref v0), some (.int v1)] [] h Q := by
  refine w_aload_n dX11_lose_0 rfl ?_
  refine w_iload_n dX11_lose_1 rfl ?_
  obtain ⟨g1, k⟩ := k
  obtain ⟨g2, k⟩ := k
  exact w_virt (as1 := [.int v1, .ref v0]) (as2 := [.ref v0, .int v1]) (rest := []) (lo2 := [some (.ref v0), some (.int v1), none]) dX11_lose_2 c_11_112 rfl rfl rfl (Nat.le_of_ble_eq_true rfl) (Nat.le_of_ble_eq_true rfl) rfl (Nat.le_of_ble_eq_true rfl) rfl rfl g1 g2 k
theorem bX11_lose_5 {d : Nat} {h : HP} {Q : Out → HP → Prop} {v0 : Nat} {v1 : Int32} {s0 : Nat} (k : (hK h v0 = 11) ∧ ((1 < (hR h 1104 v0)) ∧ ((hK h (hR h 1104 v0) = 4) ∧ (WP d mX4_goOn 0 [some (.ref (hR h 1104 v0))] [] h (KK d mX11_lose mX4_goOn 10 [some (.ref v0), some (.int v1)] [] Q))))) : WP (d + 1) mX11_lose 5 [some (.ref v0), some (.int v1)] [.ref s0] h Q := by
  refine w_pop dX11_lose_5 rfl ?_
  refine w_aload_n dX11_lose_6 rfl ?_
  obtain ⟨g1, k⟩ := k
  refine w_getR dX11_lose_7 f_11_41 t_11_4 g1 ?_
  obtain ⟨g2, k⟩ := k
  obtain ⟨g3, k⟩ := k
  exact w_virt (as1 := [.ref (hR h 1104 v0)]) (as2 := [.ref (hR h 1104 v0)]) (rest := []) (lo2 := [some (.ref (hR h 1104 v0))]) dX11_lose_10 c_11_66 rfl rfl rfl (Nat.le_of_ble_eq_true rfl) (Nat.le_of_ble_eq_true rfl) rfl (Nat.le_of_ble_eq_true rfl) rfl rfl g2 g3 k
theorem bX11_lose_13 {d : Nat} {h : HP} {Q : Out → HP → Prop} {v0 : Nat} {v1 : Int32} (k : (hK h v0 = 11) ∧ ((1 < (hR h 1101 v0)) ∧ ((hK h (hR h 1101 v0) = 10) ∧ (WP d mX10_takeOut 0 [some (.ref (hR h 1101 v0)), some (.int v1), none, none] [] h (KK d mX11_lose mX10_takeOut 18 [some (.ref v0), some (.int v1)] [] Q))))) : WP (d + 1) mX11_lose 13 [some (.ref v0), some (.int v1)] [] h Q := by
  refine w_aload_n dX11_lose_13 rfl ?_
  obtain ⟨g1, k⟩ := k
  refine w_getR dX11_lose_14 f_11_18 t_11_1 g1 ?_
  refine w_iload_n dX11_lose_17 rfl ?_
  obtain ⟨g2, k⟩ := k
  obtain ⟨g3, k⟩ := k
  exact w_virt (as1 := [.int v1, .ref (hR h 1101 v0)]) (as2 := [.ref (hR h 1101 v0), .int v1]) (rest := []) (lo2 := [some (.ref (hR h 1101 v0)), some (.int v1), none, none]) dX11_lose_18 c_11_132 rfl rfl rfl (Nat.le_of_ble_eq_true rfl) (Nat.le_of_ble_eq_true rfl) rfl (Nat.le_of_ble_eq_true rfl) rfl rfl g2 g3 k
theorem bX11_lose_21 {d : Nat} {h : HP} {Q : Out → HP → Prop} {v0 : Nat} {v1 : Int32} (k : (hK h v0 = 11) ∧ ((hK h (hR h 1101 v0) = 10) ∧ (Q (.inl (some (.int (hI h 1001 (hR h 1101 v0))))) h))) : WP d mX11_lose 21 [some (.ref v0), some (.int v1)] [] h Q := by
  refine w_aload_n dX11_lose_21 rfl ?_
  obtain ⟨g1, k⟩ := k
  refine w_getR dX11_lose_22 f_11_18 t_11_1 g1 ?_
  obtain ⟨g2, k⟩ := k
  refine w_getI dX11_lose_25 f_11_150 t_10_1 g2 ?_
  exact w_ireturn dX11_lose_28 rfl k
theorem bX11_twice_0 {d : Nat} {h : HP} {Q : Out → HP → Prop} {v0 : Nat} {v1 : Int32} {u2 : Option Value} (k : (1 < v0) ∧ ((hK h v0 = 11) ∧ (WP d mX11_needMessage 0 [some (.ref v0), some (.int v1), none] [] h (KK d mX11_twice mX11_needMessage 2 [some (.ref v0), some (.int v1), u2] [] Q)))) : WP (d + 1) mX11_twice 0 [some (.ref v0), some (.int v1), u2] [] h Q := by
  refine w_aload_n dX11_twice_0 rfl ?_
  refine w_iload_n dX11_twice_1 rfl ?_
  obtain ⟨g1, k⟩ := k
  obtain ⟨g2, k⟩ := k
  exact w_virt (as1 := [.int v1, .ref v0]) (as2 := [.ref v0, .int v1]) (rest := []) (lo2 := [some (.ref v0), some (.int v1), none]) dX11_twice_2 c_11_112 rfl rfl rfl (Nat.le_of_ble_eq_true rfl) (Nat.le_of_ble_eq_true rfl) rfl (Nat.le_of_ble_eq_true rfl) rfl rfl g1 g2 k
theorem bX11_twice_5 {d : Nat} {h : HP} {Q : Out → HP → Prop} {v0 : Nat} {v1 : Int32} {u2 : Option Value} {s0 : Nat} (k : (hK h v0 = 11) ∧ ((1 < (hR h 1104 v0)) ∧ ((hK h (hR h 1104 v0) = 4) ∧ (WP d mX4_goOn 0 [some (.ref (hR h 1104 v0))] [] h (KK d mX11_twice mX4_goOn 10 [some (.ref v0), some (.int v1), some (.ref s0)] [] Q))))) : WP (d + 1) mX11_twice 5 [some (.ref v0), some (.int v1), u2] [.ref s0] h Q := by
  refine w_astore_n (lo' := [some (.ref v0), some (.int v1), some (.ref s0)]) dX11_twice_5 (ltQ rfl) rfl ?_
  refine w_aload_n dX11_twice_6 rfl ?_
  obtain ⟨g1, k⟩ := k
  refine w_getR dX11_twice_7 f_11_41 t_11_4 g1 ?_
  obtain ⟨g2, k⟩ := k
  obtain ⟨g3, k⟩ := k
  exact w_virt (as1 := [.ref (hR h 1104 v0)]) (as2 := [.ref (hR h 1104 v0)]) (rest := []) (lo2 := [some (.ref (hR h 1104 v0))]) dX11_twice_10 c_11_66 rfl rfl rfl (Nat.le_of_ble_eq_true rfl) (Nat.le_of_ble_eq_true rfl) rfl (Nat.le_of_ble_eq_true rfl) rfl rfl g2 g3 k
theorem bX11_twice_13 {d : Nat} {h : HP} {Q : Out → HP → Prop} {v0 : Nat} {v1 : Int32} {v2 : Nat} (k : (hK h v0 = 11) ∧ ((hK h v2 = 9) ∧ ((1 < (hR h 1101 v0)) ∧ ((hK h (hR h 1101 v0) = 10) ∧ (WP d mX10_send 0 [some (.ref (hR h 1101 v0)), some (.int (hI h 900 v2)), some (.int (hI h 901 v2)), some (.int (hI h 902 v2)), some (.int (hI h 903 v2)), none] [] h (KK d mX11_twice mX10_send 33 [some (.ref v0), some (.int v1), some (.ref v2)] [] Q)))))) : WP (d + 1) mX11_twice 13 [some (.ref v0), some (.int v1), some (.ref v2)] [] h Q := by
  refine w_aload_n dX11_twice_13 rfl ?_
  obtain ⟨g1, k⟩ := k
  refine w_getR dX11_twice_14 f_11_18 t_11_1 g1 ?_
  refine w_aload_n dX11_twice_17 rfl ?_
  obtain ⟨g2, k⟩ := k
  refine w_getI dX11_twice_18 f_11_138 t_9_0 g2 ?_
  refine w_aload_n dX11_twice_21 rfl ?_
  refine w_getI dX11_twice_22 f_11_121 t_9_1 g2 ?_
  refine w_aload_n dX11_twice_25 rfl ?_
  refine w_getI dX11_twice_26 f_11_116 t_9_2 g2 ?_
  refine w_aload_n dX11_twice_29 rfl ?_
  refine w_getI dX11_twice_30 f_11_153 t_9_3 g2 ?_
  obtain ⟨g3, k⟩ := k
  obtain ⟨g4, k⟩ := k
  exact w_virt (as1 := [.int (hI h 903 v2), .int (hI h 902 v2), .int (hI h 901 v2), .int (hI h 900 v2), .ref (hR h 1101 v0)]) (as2 := [.ref (hR h 1101 v0), .int (hI h 900 v2), .int (hI h 901 v2), .int (hI h 902 v2), .int (hI h 903 v2)]) (rest := []) (lo2 := [some (.ref (hR h 1101 v0)), some (.int (hI h 900 v2)), some (.int (hI h 901 v2)), some (.int (hI h 902 v2)), some (.int (hI h 903 v2)), none]) dX11_twice_33 c_11_156 rfl rfl rfl (Nat.le_of_ble_eq_true rfl) (Nat.le_of_ble_eq_true rfl) rfl (Nat.le_of_ble_eq_true rfl) rfl rfl g3 g4 k
theorem bX11_twice_36 {d : Nat} {h : HP} {Q : Out → HP → Prop} {v0 : Nat} {v1 : Int32} {v2 : Nat} {s0 : Nat} (k : (1 < s0) ∧ ((hK h s0 = 9) ∧ (WP d mX9_copyRest 0 [some (.ref s0), some (.ref v2), none] [] h (KK d mX11_twice mX9_copyRest 37 [some (.ref v0), some (.int v1), some (.ref v2)] [] Q)))) : WP (d + 1) mX11_twice 36 [some (.ref v0), some (.int v1), some (.ref v2)] [.ref s0] h Q := by
  refine w_aload_n dX11_twice_36 rfl ?_
  obtain ⟨g1, k⟩ := k
  obtain ⟨g2, k⟩ := k
  exact w_virt (as1 := [.ref v2, .ref s0]) (as2 := [.ref s0, .ref v2]) (rest := []) (lo2 := [some (.ref s0), some (.ref v2), none]) dX11_twice_37 c_11_160 rfl rfl rfl (Nat.le_of_ble_eq_true rfl) (Nat.le_of_ble_eq_true rfl) rfl (Nat.le_of_ble_eq_true rfl) rfl rfl g1 g2 k
theorem bX11_twice_40 {d : Nat} {h : HP} {Q : Out → HP → Prop} {v0 : Nat} {v1 : Int32} {v2 : Nat} (k : (hK h v0 = 11) ∧ ((hK h (hR h 1101 v0) = 10) ∧ (Q (.inl (some (.int (hI h 1001 (hR h 1101 v0))))) h))) : WP d mX11_twice 40 [some (.ref v0), some (.int v1), some (.ref v2)] [] h Q := by
  refine w_aload_n dX11_twice_40 rfl ?_
  obtain ⟨g1, k⟩ := k
  refine w_getR dX11_twice_41 f_11_18 t_11_1 g1 ?_
  obtain ⟨g2, k⟩ := k
  refine w_getI dX11_twice_44 f_11_150 t_10_1 g2 ?_
  exact w_ireturn dX11_twice_47 rfl k
theorem bX11_stand_0 {d : Nat} {h : HP} {Q : Out → HP → Prop} {v0 : Nat} {v1 : Int32} {u2 : Option Value} (k : (1 < v0) ∧ ((hK h v0 = 11) ∧ (WP d mX11_needMachine 0 [some (.ref v0), some (.int v1)] [] h (KK d mX11_stand mX11_needMachine 2 [some (.ref v0), some (.int v1), u2] [] Q)))) : WP (d + 1) mX11_stand 0 [some (.ref v0), some (.int v1), u2] [] h Q := by
  refine w_aload_n dX11_stand_0 rfl ?_
  refine w_iload_n dX11_stand_1 rfl ?_
  obtain ⟨g1, k⟩ := k
  obtain ⟨g2, k⟩ := k
  exact w_virt (as1 := [.int v1, .ref v0]) (as2 := [.ref v0, .int v1]) (rest := []) (lo2 := [some (.ref v0), some (.int v1)]) dX11_stand_2 c_11_62 rfl rfl rfl (Nat.le_of_ble_eq_true rfl) (Nat.le_of_ble_eq_true rfl) rfl (Nat.le_of_ble_eq_true rfl) rfl rfl g1 g2 k
theorem bX11_stand_5 {d : Nat} {h : HP} {Q : Out → HP → Prop} {v0 : Nat} {v1 : Int32} {u2 : Option Value} {s0 : Nat} (k : (hK h s0 = 8) ∧ ((((hI h 804 s0) = 0) → Q (.inr 2) (thr h)) ∧ ((¬ ((hI h 804 s0) = 0)) → (((hI h 807 s0) = (2 : Int32)) → Q (.inr 2) (thr h)) ∧ ((¬ ((hI h 807 s0) = (2 : Int32))) → (1 < s0) ∧ (WP d mX8_hasPromised 0 [some (.ref s0)] [] h (KK d mX11_stand mX8_hasPromised 22 [some (.ref v0), some (.int v1), some (.ref s0)] [] Q)))))) : WP (d + 1) mX11_stand 5 [some (.ref v0), some (.int v1), u2] [.ref s0] h Q := by
  refine w_astore_n (lo' := [some (.ref v0), some (.int v1), some (.ref s0)]) dX11_stand_5 (ltQ rfl) rfl ?_
  refine w_aload_n dX11_stand_6 rfl ?_
  obtain ⟨g1, k⟩ := k
  refine w_getZ dX11_stand_7 f_11_69 t_8_4 g1 ?_
  refine w_if_eq (pc' := 28) dX11_stand_10 rfl rfl ⟨fun c => ?_, fun c => ?_⟩
  · replace k := k.1 c
    exact w_thr dX11_stand_28 nx_11_127 tw_X11_stand_28 (Nat.le_of_ble_eq_true rfl) rfl rfl k
  · replace k := k.2 c
    refine w_aload_n dX11_stand_13 rfl ?_
    refine w_getI dX11_stand_14 f_11_163 t_8_7 g1 ?_
    refine w_iconst dX11_stand_17 i1_2 ?_
    refine w_ic_eq (pc' := 28) dX11_stand_18 rfl rfl ⟨fun c => ?_, fun c => ?_⟩
    · replace k := k.1 c
      exact w_thr dX11_stand_28 nx_11_127 tw_X11_stand_28 (Nat.le_of_ble_eq_true rfl) rfl rfl k
    · replace k := k.2 c
      refine w_aload_n dX11_stand_21 rfl ?_
      obtain ⟨g2, k⟩ := k
      exact w_virt (as1 := [.ref s0]) (as2 := [.ref s0]) (rest := []) (lo2 := [some (.ref s0)]) dX11_stand_22 c_11_166 rfl rfl rfl (Nat.le_of_ble_eq_true rfl) (Nat.le_of_ble_eq_true rfl) rfl (Nat.le_of_ble_eq_true rfl) rfl rfl g2 g1 k
theorem bX11_stand_25 {d : Nat} {h : HP} {Q : Out → HP → Prop} {v0 : Nat} {v1 : Int32} {v2 : Nat} {s0 : Int32} (k : ((s0 = 0) → (hK h v0 = 11) ∧ ((1 < (hR h 1104 v0)) ∧ ((hK h (hR h 1104 v0) = 4) ∧ (WP d mX4_goOn 0 [some (.ref (hR h 1104 v0))] [] h (KK d mX11_stand mX4_goOn 42 [some (.ref v0), some (.int v1), some (.ref v2)] [] Q))))) ∧ ((¬ (s0 = 0)) → Q (.inr 2) (thr h))) : WP (d + 1) mX11_stand 25 [some (.ref v0), some (.int v1), some (.ref v2)] [.int s0] h Q := by
  refine w_if_eq (pc' := 38) dX11_stand_25 rfl rfl ⟨fun c => ?_, fun c => ?_⟩
  · replace k := k.1 c
    refine w_aload_n dX11_stand_38 rfl ?_
    obtain ⟨g1, k⟩ := k
    refine w_getR dX11_stand_39 f_11_41 t_11_4 g1 ?_
    obtain ⟨g2, k⟩ := k
    obtain ⟨g3, k⟩ := k
    exact w_virt (as1 := [.ref (hR h 1104 v0)]) (as2 := [.ref (hR h 1104 v0)]) (rest := []) (lo2 := [some (.ref (hR h 1104 v0))]) dX11_stand_42 c_11_66 rfl rfl rfl (Nat.le_of_ble_eq_true rfl) (Nat.le_of_ble_eq_true rfl) rfl (Nat.le_of_ble_eq_true rfl) rfl rfl g2 g3 k
  · replace k := k.2 c
    exact w_thr dX11_stand_28 nx_11_127 tw_X11_stand_28 (Nat.le_of_ble_eq_true rfl) rfl rfl k
theorem bX11_stand_45 {d : Nat} {h : HP} {Q : Out → HP → Prop} {v0 : Nat} {v1 : Int32} {v2 : Nat} (k : (hK h v0 = 11) ∧ ((1 < (hR h 1102 v0)) ∧ ((hK h (hR h 1102 v0) = 6) ∧ (WP d mX6_letStand 0 [some (.ref (hR h 1102 v0)), some (.ref v2), none, none] [] h (KK d mX11_stand mX6_letStand 50 [some (.ref v0), some (.int v1), some (.ref v2)] [] Q))))) : WP (d + 1) mX11_stand 45 [some (.ref v0), some (.int v1), some (.ref v2)] [] h Q := by
  refine w_aload_n dX11_stand_45 rfl ?_
  obtain ⟨g1, k⟩ := k
  refine w_getR dX11_stand_46 f_11_27 t_11_2 g1 ?_
  refine w_aload_n dX11_stand_49 rfl ?_
  obtain ⟨g2, k⟩ := k
  obtain ⟨g3, k⟩ := k
  exact w_virt (as1 := [.ref v2, .ref (hR h 1102 v0)]) (as2 := [.ref (hR h 1102 v0), .ref v2]) (rest := []) (lo2 := [some (.ref (hR h 1102 v0)), some (.ref v2), none, none]) dX11_stand_50 c_11_172 rfl rfl rfl (Nat.le_of_ble_eq_true rfl) (Nat.le_of_ble_eq_true rfl) rfl (Nat.le_of_ble_eq_true rfl) rfl rfl g2 g3 k
theorem bX11_stand_53 {d : Nat} {h : HP} {Q : Out → HP → Prop} {v0 : Nat} {v1 : Int32} {v2 : Nat} (k : (hK h v2 = 8) ∧ (Q (.inl (some (.int (hI h 808 v2)))) h)) : WP d mX11_stand 53 [some (.ref v0), some (.int v1), some (.ref v2)] [] h Q := by
  refine w_aload_n dX11_stand_53 rfl ?_
  obtain ⟨g1, k⟩ := k
  refine w_getI dX11_stand_54 f_11_175 t_8_8 g1 ?_
  exact w_ireturn dX11_stand_57 rfl k
theorem bX11_beat_0 {d : Nat} {h : HP} {Q : Out → HP → Prop} {v0 : Nat} {v1 : Int32} {u2 : Option Value} (k : (1 < v0) ∧ ((hK h v0 = 11) ∧ (WP d mX11_needMachine 0 [some (.ref v0), some (.int v1)] [] h (KK d mX11_beat mX11_needMachine 2 [some (.ref v0), some (.int v1), u2] [] Q)))) : WP (d + 1) mX11_beat 0 [some (.ref v0), some (.int v1), u2] [] h Q := by
  refine w_aload_n dX11_beat_0 rfl ?_
  refine w_iload_n dX11_beat_1 rfl ?_
  obtain ⟨g1, k⟩ := k
  obtain ⟨g2, k⟩ := k
  exact w_virt (as1 := [.int v1, .ref v0]) (as2 := [.ref v0, .int v1]) (rest := []) (lo2 := [some (.ref v0), some (.int v1)]) dX11_beat_2 c_11_62 rfl rfl rfl (Nat.le_of_ble_eq_true rfl) (Nat.le_of_ble_eq_true rfl) rfl (Nat.le_of_ble_eq_true rfl) rfl rfl g1 g2 k
theorem bX11_beat_5 {d : Nat} {h : HP} {Q : Out → HP → Prop} {v0 : Nat} {v1 : Int32} {u2 : Option Value} {s0 : Nat} (k : (hK h s0 = 8) ∧ ((((hI h 804 s0) = 0) → Q (.inr 2) (thr h)) ∧ ((¬ ((hI h 804 s0) = 0)) → (((hI h 807 s0) = (2 : Int32)) → (hK h v0 = 11) ∧ ((1 < (hR h 1104 v0)) ∧ ((hK h (hR h 1104 v0) = 4) ∧ (WP d mX4_goOn 0 [some (.ref (hR h 1104 v0))] [] h (KK d mX11_beat mX4_goOn 35 [some (.ref v0), some (.int v1), some (.ref s0)] [] Q))))) ∧ ((¬ ((hI h 807 s0) = (2 : Int32))) → Q (.inr 2) (thr h))))) : WP (d + 1) mX11_beat 5 [some (.ref v0), some (.int v1), u2] [.ref s0] h Q := by
  refine w_astore_n (lo' := [some (.ref v0), some (.int v1), some (.ref s0)]) dX11_beat_5 (ltQ rfl) rfl ?_
  refine w_aload_n dX11_beat_6 rfl ?_
  obtain ⟨g1, k⟩ := k
  refine w_getZ dX11_beat_7 f_11_69 t_8_4 g1 ?_
  refine w_if_eq (pc' := 21) dX11_beat_10 rfl rfl ⟨fun c => ?_, fun c => ?_⟩
  · replace k := k.1 c
    exact w_thr dX11_beat_21 nx_11_127 tw_X11_beat_21 (Nat.le_of_ble_eq_true rfl) rfl rfl k
  · replace k := k.2 c
    refine w_aload_n dX11_beat_13 rfl ?_
    refine w_getI dX11_beat_14 f_11_163 t_8_7 g1 ?_
    refine w_iconst dX11_beat_17 i1_2 ?_
    refine w_ic_eq (pc' := 31) dX11_beat_18 rfl rfl ⟨fun c => ?_, fun c => ?_⟩
    · replace k := k.1 c
      refine w_aload_n dX11_beat_31 rfl ?_
      obtain ⟨g2, k⟩ := k
      refine w_getR dX11_beat_32 f_11_41 t_11_4 g2 ?_
      obtain ⟨g3, k⟩ := k
      obtain ⟨g4, k⟩ := k
      exact w_virt (as1 := [.ref (hR h 1104 v0)]) (as2 := [.ref (hR h 1104 v0)]) (rest := []) (lo2 := [some (.ref (hR h 1104 v0))]) dX11_beat_35 c_11_66 rfl rfl rfl (Nat.le_of_ble_eq_true rfl) (Nat.le_of_ble_eq_true rfl) rfl (Nat.le_of_ble_eq_true rfl) rfl rfl g3 g4 k
    · replace k := k.2 c
      exact w_thr dX11_beat_21 nx_11_127 tw_X11_beat_21 (Nat.le_of_ble_eq_true rfl) rfl rfl k
theorem bX11_beat_38 {d : Nat} {h : HP} {Q : Out → HP → Prop} {v0 : Nat} {v1 : Int32} {v2 : Nat} (k : (hK h v0 = 11) ∧ ((1 < (hR h 1102 v0)) ∧ ((hK h (hR h 1102 v0) = 6) ∧ (WP d mX6_letBeat 0 [some (.ref (hR h 1102 v0)), some (.ref v2), none, none, none] [] h (KK d mX11_beat mX6_letBeat 43 [some (.ref v0), some (.int v1), some (.ref v2)] [] Q))))) : WP (d + 1) mX11_beat 38 [some (.ref v0), some (.int v1), some (.ref v2)] [] h Q := by
  refine w_aload_n dX11_beat_38 rfl ?_
  obtain ⟨g1, k⟩ := k
  refine w_getR dX11_beat_39 f_11_27 t_11_2 g1 ?_
  refine w_aload_n dX11_beat_42 rfl ?_
  obtain ⟨g2, k⟩ := k
  obtain ⟨g3, k⟩ := k
  exact w_virt (as1 := [.ref v2, .ref (hR h 1102 v0)]) (as2 := [.ref (hR h 1102 v0), .ref v2]) (rest := []) (lo2 := [some (.ref (hR h 1102 v0)), some (.ref v2), none, none, none]) dX11_beat_43 c_11_178 rfl rfl rfl (Nat.le_of_ble_eq_true rfl) (Nat.le_of_ble_eq_true rfl) rfl (Nat.le_of_ble_eq_true rfl) rfl rfl g2 g3 k
theorem bX11_beat_46 {d : Nat} {h : HP} {Q : Out → HP → Prop} {v0 : Nat} {v1 : Int32} {v2 : Nat} {s0 : Int32} (k : Q (.inl (some (.int s0))) h) : WP d mX11_beat 46 [some (.ref v0), some (.int v1), some (.ref v2)] [.int s0] h Q := by
  exact w_ireturn dX11_beat_46 rfl k
theorem bX11_request_0 {d : Nat} {h : HP} {Q : Out → HP → Prop} {v0 : Nat} {v1 : Int32} {v2 : Int32} {v3 : Int32} {v4 : Int32} {u5 : Option Value} {u6 : Option Value} (k : (1 < v0) ∧ ((hK h v0 = 11) ∧ (WP d mX11_needMachine 0 [some (.ref v0), some (.int v1)] [] h (KK d mX11_request mX11_needMachine 2 [some (.ref v0), some (.int v1), some (.int v2), some (.int v3), some (.int v4), u5, u6] [] Q)))) : WP (d + 1) mX11_request 0 [some (.ref v0), some (.int v1), some (.int v2), some (.int v3), some (.int v4), u5, u6] [] h Q := by
  refine w_aload_n dX11_request_0 rfl ?_
  refine w_iload_n dX11_request_1 rfl ?_
  obtain ⟨g1, k⟩ := k
  obtain ⟨g2, k⟩ := k
  exact w_virt (as1 := [.int v1, .ref v0]) (as2 := [.ref v0, .int v1]) (rest := []) (lo2 := [some (.ref v0), some (.int v1)]) dX11_request_2 c_11_62 rfl rfl rfl (Nat.le_of_ble_eq_true rfl) (Nat.le_of_ble_eq_true rfl) rfl (Nat.le_of_ble_eq_true rfl) rfl rfl g1 g2 k
theorem bX11_request_5 {d : Nat} {h : HP} {Q : Out → HP → Prop} {v0 : Nat} {v1 : Int32} {v2 : Int32} {v3 : Int32} {v4 : Int32} {u5 : Option Value} {u6 : Option Value} {s0 : Nat} (k : ((v2 < 0) → Q (.inr 3) (thr h)) ∧ ((¬ (v2 < 0)) → ((v2 < (4 : Int32)) → WP d mX11_needRange 0 [some (.int v3), some (.int (1 : Int32)), some (.int (99 : Int32))] [] h (KK d mX11_request mX11_needRange 30 [some (.ref v0), some (.int v1), some (.int v2), some (.int v3), some (.int v4), some (.ref s0), u6] [] Q)) ∧ ((¬ (v2 < (4 : Int32))) → Q (.inr 3) (thr h)))) : WP (d + 1) mX11_request 5 [some (.ref v0), some (.int v1), some (.int v2), some (.int v3), some (.int v4), u5, u6] [.ref s0] h Q := by
  refine w_astore (lo' := [some (.ref v0), some (.int v1), some (.int v2), some (.int v3), some (.int v4), some (.ref s0), u6]) dX11_request_5 (ltQ rfl) rfl ?_
  refine w_iload_n dX11_request_7 rfl ?_
  refine w_if_lt (pc' := 16) dX11_request_8 rfl rfl ⟨fun c => ?_, fun c => ?_⟩
  · replace k := k.1 c
    exact w_thr dX11_request_16 nx_11_182 tw_X11_request_16 (Nat.le_of_ble_eq_true rfl) rfl rfl k
  · replace k := k.2 c
    refine w_iload_n dX11_request_11 rfl ?_
    refine w_iconst dX11_request_12 i1_4 ?_
    refine w_ic_lt (pc' := 26) dX11_request_13 rfl rfl ⟨fun c => ?_, fun c => ?_⟩
    · replace k := k.1 c
      refine w_iload_n dX11_request_26 rfl ?_
      refine w_iconst dX11_request_27 i1_1 ?_
      refine w_bipush dX11_request_28 i2_99 ?_
      exact w_stat (as1 := [.int (99 : Int32), .int (1 : Int32), .int v3]) (as2 := [.int v3, .int (1 : Int32), .int (99 : Int32)]) (rest := []) (lo2 := [some (.int v3), some (.int (1 : Int32)), some (.int (99 : Int32))]) dX11_request_30 c_11_90 rfl rfl rfl (Nat.le_of_ble_eq_true rfl) (Nat.le_of_ble_eq_true rfl) rfl (Nat.le_of_ble_eq_true rfl) rfl k
    · replace k := k.2 c
      exact w_thr dX11_request_16 nx_11_182 tw_X11_request_16 (Nat.le_of_ble_eq_true rfl) rfl rfl k
theorem bX11_request_33 {d : Nat} {h : HP} {Q : Out → HP → Prop} {v0 : Nat} {v1 : Int32} {v2 : Int32} {v3 : Int32} {v4 : Int32} {v5 : Nat} {u6 : Option Value} (k : WP d mX11_needRange 0 [some (.int v4), some (.int (0 : Int32)), some (.int (999 : Int32))] [] h (KK d mX11_request mX11_needRange 39 [some (.ref v0), some (.int v1), some (.int v2), some (.int v3), some (.int v4), some (.ref v5), u6] [] Q)) : WP (d + 1) mX11_request 33 [some (.ref v0), some (.int v1), some (.int v2), some (.int v3), some (.int v4), some (.ref v5), u6] [] h Q := by
  refine w_iload dX11_request_33 rfl ?_
  refine w_iconst dX11_request_35 i1_0 ?_
  refine w_sipush dX11_request_36 i3_999 ?_
  exact w_stat (as1 := [.int (999 : Int32), .int (0 : Int32), .int v4]) (as2 := [.int v4, .int (0 : Int32), .int (999 : Int32)]) (rest := []) (lo2 := [some (.int v4), some (.int (0 : Int32)), some (.int (999 : Int32))]) dX11_request_39 c_11_90 rfl rfl rfl (Nat.le_of_ble_eq_true rfl) (Nat.le_of_ble_eq_true rfl) rfl (Nat.le_of_ble_eq_true rfl) rfl k
theorem bX11_request_42 {d : Nat} {h : HP} {Q : Out → HP → Prop} {v0 : Nat} {v1 : Int32} {v2 : Int32} {v3 : Int32} {v4 : Int32} {v5 : Nat} {u6 : Option Value} (k : (hK h v0 = 11) ∧ ((1 < (hR h 1104 v0)) ∧ ((hK h (hR h 1104 v0) = 4) ∧ (WP d mX4_findWrite 0 [some (.ref (hR h 1104 v0)), some (.int v2), some (.int v3), none] [] h (KK d mX11_request mX4_findWrite 48 [some (.ref v0), some (.int v1), some (.int v2), some (.int v3), some (.int v4), some (.ref v5), u6] [] Q))))) : WP (d + 1) mX11_request 42 [some (.ref v0), some (.int v1), some (.int v2), some (.int v3), some (.int v4), some (.ref v5), u6] [] h Q := by
  refine w_aload_n dX11_request_42 rfl ?_
  obtain ⟨g1, k⟩ := k
  refine w_getR dX11_request_43 f_11_41 t_11_4 g1 ?_
  refine w_iload_n dX11_request_46 rfl ?_
  refine w_iload_n dX11_request_47 rfl ?_
  obtain ⟨g2, k⟩ := k
  obtain ⟨g3, k⟩ := k
  exact w_virt (as1 := [.int v3, .int v2, .ref (hR h 1104 v0)]) (as2 := [.ref (hR h 1104 v0), .int v2, .int v3]) (rest := []) (lo2 := [some (.ref (hR h 1104 v0)), some (.int v2), some (.int v3), none]) dX11_request_48 c_11_187 rfl rfl rfl (Nat.le_of_ble_eq_true rfl) (Nat.le_of_ble_eq_true rfl) rfl (Nat.le_of_ble_eq_true rfl) rfl rfl g2 g3 k
theorem bX11_request_51 {d : Nat} {h : HP} {Q : Out → HP → Prop} {v0 : Nat} {v1 : Int32} {v2 : Int32} {v3 : Int32} {v4 : Int32} {v5 : Nat} {u6 : Option Value} {s0 : Nat} (k : ((s0 = 0) → (hK h v5 = 8) ∧ ((((hI h 804 v5) = 0) → Q (.inr 2) (thr h)) ∧ ((¬ ((hI h 804 v5) = 0)) → ((¬ (hI h 807 v5) = (2 : Int32)) → Q (.inr 2) (thr h)) ∧ ((¬ (¬ (hI h 807 v5) = (2 : Int32))) → (1 < (hR h 801 v5)) ∧ ((hK h (hR h 801 v5) = 7) ∧ (WP d mX7_isFull 0 [some (.ref (hR h 801 v5))] [] h (KK d mX11_request mX7_isFull 100 [some (.ref v0), some (.int v1), some (.int v2), some (.int v3), some (.int v4), some (.ref v5), some (.ref s0)] [] Q))))))) ∧ ((¬ (s0 = 0)) → (hK h s0 = 0) ∧ ((((hI h 3 s0) = v4) → (hK h v5 = 8) ∧ ((((hI h 804 v5) = 0) → Q (.inr 2) (thr h)) ∧ ((¬ ((hI h 804 v5) = 0)) → ((¬ (hI h 807 v5) = (2 : Int32)) → Q (.inr 2) (thr h)) ∧ ((¬ (¬ (hI h 807 v5) = (2 : Int32))) → (1 < (hR h 801 v5)) ∧ ((hK h (hR h 801 v5) = 7) ∧ (WP d mX7_isFull 0 [some (.ref (hR h 801 v5))] [] h (KK d mX11_request mX7_isFull 100 [some (.ref v0), some (.int v1), some (.int v2), some (.int v3), some (.int v4), some (.ref v5), some (.ref s0)] [] Q))))))) ∧ ((¬ ((hI h 3 s0) = v4)) → Q (.inr 1) (thr h))))) : WP (d + 1) mX11_request 51 [some (.ref v0), some (.int v1), some (.int v2), some (.int v3), some (.int v4), some (.ref v5), u6] [.ref s0] h Q := by
  refine w_astore (lo' := [some (.ref v0), some (.int v1), some (.int v2), some (.int v3), some (.int v4), some (.ref v5), some (.ref s0)]) dX11_request_51 (ltQ rfl) rfl ?_
  refine w_aload dX11_request_53 rfl ?_
  refine w_ifnull (pc' := 78) dX11_request_55 rfl rfl ⟨fun c => ?_, fun c => ?_⟩
  · replace k := k.1 c
    refine w_aload dX11_request_78 rfl ?_
    obtain ⟨g1, k⟩ := k
    refine w_getZ dX11_request_80 f_11_69 t_8_4 g1 ?_
    refine w_if_eq (pc' := 121) dX11_request_83 rfl rfl ⟨fun c => ?_, fun c => ?_⟩
    · replace k := k.1 c
      exact w_thr dX11_request_121 nx_11_127 tw_X11_request_121 (Nat.le_of_ble_eq_true rfl) rfl rfl k
    · replace k := k.2 c
      refine w_aload dX11_request_86 rfl ?_
      refine w_getI dX11_request_88 f_11_163 t_8_7 g1 ?_
      refine w_iconst dX11_request_91 i1_2 ?_
      refine w_ic_ne (pc' := 121) dX11_request_92 rfl rfl ⟨fun c => ?_, fun c => ?_⟩
      · replace k := k.1 c
        exact w_thr dX11_request_121 nx_11_127 tw_X11_request_121 (Nat.le_of_ble_eq_true rfl) rfl rfl k
      · replace k := k.2 c
        refine w_aload dX11_request_95 rfl ?_
        refine w_getR dX11_request_97 f_11_198 t_8_1 g1 ?_
        obtain ⟨g2, k⟩ := k
        obtain ⟨g3, k⟩ := k
        exact w_virt (as1 := [.ref (hR h 801 v5)]) (as2 := [.ref (hR h 801 v5)]) (rest := []) (lo2 := [some (.ref (hR h 801 v5))]) dX11_request_100 c_11_202 rfl rfl rfl (Nat.le_of_ble_eq_true rfl) (Nat.le_of_ble_eq_true rfl) rfl (Nat.le_of_ble_eq_true rfl) rfl rfl g2 g3 k
  · replace k := k.2 c
    refine w_aload dX11_request_58 rfl ?_
    obtain ⟨g4, k⟩ := k
    refine w_getI dX11_request_60 f_11_191 t_0_3 g4 ?_
    refine w_iload dX11_request_63 rfl ?_
    refine w_ic_eq (pc' := 78) dX11_request_65 rfl rfl ⟨fun c => ?_, fun c => ?_⟩
    · replace k := k.1 c
      refine w_aload dX11_request_78 rfl ?_
      obtain ⟨g5, k⟩ := k
      refine w_getZ dX11_request_80 f_11_69 t_8_4 g5 ?_
      refine w_if_eq (pc' := 121) dX11_request_83 rfl rfl ⟨fun c => ?_, fun c => ?_⟩
      · replace k := k.1 c
        exact w_thr dX11_request_121 nx_11_127 tw_X11_request_121 (Nat.le_of_ble_eq_true rfl) rfl rfl k
      · replace k := k.2 c
        refine w_aload dX11_request_86 rfl ?_
        refine w_getI dX11_request_88 f_11_163 t_8_7 g5 ?_
        refine w_iconst dX11_request_91 i1_2 ?_
        refine w_ic_ne (pc' := 121) dX11_request_92 rfl rfl ⟨fun c => ?_, fun c => ?_⟩
        · replace k := k.1 c
          exact w_thr dX11_request_121 nx_11_127 tw_X11_request_121 (Nat.le_of_ble_eq_true rfl) rfl rfl k
        · replace k := k.2 c
          refine w_aload dX11_request_95 rfl ?_
          refine w_getR dX11_request_97 f_11_198 t_8_1 g5 ?_
          obtain ⟨g6, k⟩ := k
          obtain ⟨g7, k⟩ := k
          exact w_virt (as1 := [.ref (hR h 801 v5)]) (as2 := [.ref (hR h 801 v5)]) (rest := []) (lo2 := [some (.ref (hR h 801 v5))]) dX11_request_100 c_11_202 rfl rfl rfl (Nat.le_of_ble_eq_true rfl) (Nat.le_of_ble_eq_true rfl) rfl (Nat.le_of_ble_eq_true rfl) rfl rfl g6 g7 k
    · replace k := k.2 c
      exact w_thr dX11_request_68 nx_11_51 tw_X11_request_68 (Nat.le_of_ble_eq_true rfl) rfl rfl k
theorem bX11_request_103 {d : Nat} {h : HP} {Q : Out → HP → Prop} {v0 : Nat} {v1 : Int32} {v2 : Int32} {v3 : Int32} {v4 : Int32} {v5 : Nat} {v6 : Nat} {s0 : Int32} (k : ((¬ s0 = 0) → Q (.inr 2) (thr h)) ∧ ((¬ (¬ s0 = 0)) → ((¬ v6 = 0) → (hK h v0 = 11) ∧ ((1 < (hR h 1104 v0)) ∧ ((hK h (hR h 1104 v0) = 4) ∧ (WP d mX4_goOn 0 [some (.ref (hR h 1104 v0))] [] h (KK d mX11_request mX4_goOn 135 [some (.ref v0), some (.int v1), some (.int v2), some (.int v3), some (.int v4), some (.ref v5), some (.ref v6)] [] Q))))) ∧ ((¬ (¬ v6 = 0)) → (hK h v0 = 11) ∧ ((1 < (hR h 1104 v0)) ∧ ((hK h (hR h 1104 v0) = 4) ∧ (WP d mX4_isFull 0 [some (.ref (hR h 1104 v0))] [] h (KK d mX11_request mX4_isFull 115 [some (.ref v0), some (.int v1), some (.int v2), some (.int v3), some (.int v4), some (.ref v5), some (.ref v6)] [] Q))))))) : WP (d + 1) mX11_request 103 [some (.ref v0), some (.int v1), some (.int v2), some (.int v3), some (.int v4), some (.ref v5), some (.ref v6)] [.int s0] h Q := by
  refine w_if_ne (pc' := 121) dX11_request_103 rfl rfl ⟨fun c => ?_, fun c => ?_⟩
  · replace k := k.1 c
    exact w_thr dX11_request_121 nx_11_127 tw_X11_request_121 (Nat.le_of_ble_eq_true rfl) rfl rfl k
  · replace k := k.2 c
    refine w_aload dX11_request_106 rfl ?_
    refine w_ifnonnull (pc' := 131) dX11_request_108 rfl rfl ⟨fun c => ?_, fun c => ?_⟩
    · replace k := k.1 c
      refine w_aload_n dX11_request_131 rfl ?_
      obtain ⟨g1, k⟩ := k
      refine w_getR dX11_request_132 f_11_41 t_11_4 g1 ?_
      obtain ⟨g2, k⟩ := k
      obtain ⟨g3, k⟩ := k
      exact w_virt (as1 := [.ref (hR h 1104 v0)]) (as2 := [.ref (hR h 1104 v0)]) (rest := []) (lo2 := [some (.ref (hR h 1104 v0))]) dX11_request_135 c_11_66 rfl rfl rfl (Nat.le_of_ble_eq_true rfl) (Nat.le_of_ble_eq_true rfl) rfl (Nat.le_of_ble_eq_true rfl) rfl rfl g2 g3 k
    · replace k := k.2 c
      refine w_aload_n dX11_request_111 rfl ?_
      obtain ⟨g4, k⟩ := k
      refine w_getR dX11_request_112 f_11_41 t_11_4 g4 ?_
      obtain ⟨g5, k⟩ := k
      obtain ⟨g6, k⟩ := k
      exact w_virt (as1 := [.ref (hR h 1104 v0)]) (as2 := [.ref (hR h 1104 v0)]) (rest := []) (lo2 := [some (.ref (hR h 1104 v0))]) dX11_request_115 c_11_207 rfl rfl rfl (Nat.le_of_ble_eq_true rfl) (Nat.le_of_ble_eq_true rfl) rfl (Nat.le_of_ble_eq_true rfl) rfl rfl g5 g6 k
theorem bX11_request_118 {d : Nat} {h : HP} {Q : Out → HP → Prop} {v0 : Nat} {v1 : Int32} {v2 : Int32} {v3 : Int32} {v4 : Int32} {v5 : Nat} {v6 : Nat} {s0 : Int32} (k : ((s0 = 0) → (hK h v0 = 11) ∧ ((1 < (hR h 1104 v0)) ∧ ((hK h (hR h 1104 v0) = 4) ∧ (WP d mX4_goOn 0 [some (.ref (hR h 1104 v0))] [] h (KK d mX11_request mX4_goOn 135 [some (.ref v0), some (.int v1), some (.int v2), some (.int v3), some (.int v4), some (.ref v5), some (.ref v6)] [] Q))))) ∧ ((¬ (s0 = 0)) → Q (.inr 2) (thr h))) : WP (d + 1) mX11_request 118 [some (.ref v0), some (.int v1), some (.int v2), some (.int v3), some (.int v4), some (.ref v5), some (.ref v6)] [.int s0] h Q := by
  refine w_if_eq (pc' := 131) dX11_request_118 rfl rfl ⟨fun c => ?_, fun c => ?_⟩
  · replace k := k.1 c
    refine w_aload_n dX11_request_131 rfl ?_
    obtain ⟨g1, k⟩ := k
    refine w_getR dX11_request_132 f_11_41 t_11_4 g1 ?_
    obtain ⟨g2, k⟩ := k
    obtain ⟨g3, k⟩ := k
    exact w_virt (as1 := [.ref (hR h 1104 v0)]) (as2 := [.ref (hR h 1104 v0)]) (rest := []) (lo2 := [some (.ref (hR h 1104 v0))]) dX11_request_135 c_11_66 rfl rfl rfl (Nat.le_of_ble_eq_true rfl) (Nat.le_of_ble_eq_true rfl) rfl (Nat.le_of_ble_eq_true rfl) rfl rfl g2 g3 k
  · replace k := k.2 c
    exact w_thr dX11_request_121 nx_11_127 tw_X11_request_121 (Nat.le_of_ble_eq_true rfl) rfl rfl k
theorem bX11_request_138 {d : Nat} {h : HP} {Q : Out → HP → Prop} {v0 : Nat} {v1 : Int32} {v2 : Int32} {v3 : Int32} {v4 : Int32} {v5 : Nat} {v6 : Nat} (k : ((¬ v6 = 0) → WP (d + 1) mX11_request 154 [some (.ref v0), some (.int v1), some (.int v2), some (.int v3), some (.int v4), some (.ref v5), some (.ref v6)] [] h Q) ∧ ((¬ (¬ v6 = 0)) → (hK h v0 = 11) ∧ ((1 < (hR h 1104 v0)) ∧ ((hK h (hR h 1104 v0) = 4) ∧ (WP d mX4_addWrite 0 [some (.ref (hR h 1104 v0)), some (.int v2), some (.int v3), some (.int v4), none] [] h (KK d mX11_request mX4_addWrite 151 [some (.ref v0), some (.int v1), some (.int v2), some (.int v3), some (.int v4), some (.ref v5), some (.ref v6)] [] Q)))))) : WP (d + 1) mX11_request 138 [some (.ref v0), some (.int v1), some (.int v2), some (.int v3), some (.int v4), some (.ref v5), some (.ref v6)] [] h Q := by
  refine w_aload dX11_request_138 rfl ?_
  refine w_ifnonnull (pc' := 154) dX11_request_140 rfl rfl ⟨fun c => ?_, fun c => ?_⟩
  · replace k := k.1 c
    exact k
  · replace k := k.2 c
    refine w_aload_n dX11_request_143 rfl ?_
    obtain ⟨g1, k⟩ := k
    refine w_getR dX11_request_144 f_11_41 t_11_4 g1 ?_
    refine w_iload_n dX11_request_147 rfl ?_
    refine w_iload_n dX11_request_148 rfl ?_
    refine w_iload dX11_request_149 rfl ?_
    obtain ⟨g2, k⟩ := k
    obtain ⟨g3, k⟩ := k
    exact w_virt (as1 := [.int v4, .int v3, .int v2, .ref (hR h 1104 v0)]) (as2 := [.ref (hR h 1104 v0), .int v2, .int v3, .int v4]) (rest := []) (lo2 := [some (.ref (hR h 1104 v0)), some (.int v2), some (.int v3), some (.int v4), none]) dX11_request_151 c_11_210 rfl rfl rfl (Nat.le_of_ble_eq_true rfl) (Nat.le_of_ble_eq_true rfl) rfl (Nat.le_of_ble_eq_true rfl) rfl rfl g2 g3 k
theorem bX11_request_154 {d : Nat} {h : HP} {Q : Out → HP → Prop} {v0 : Nat} {v1 : Int32} {v2 : Int32} {v3 : Int32} {v4 : Int32} {v5 : Nat} {v6 : Nat} (k : (hK h v5 = 8) ∧ ((1 < (hR h 801 v5)) ∧ ((hK h (hR h 801 v5) = 7) ∧ (WP d mX7_hasSerial 0 [some (.ref (hR h 801 v5)), some (.int v2), some (.int v3)] [] h (KK d mX11_request mX7_hasSerial 161 [some (.ref v0), some (.int v1), some (.int v2), some (.int v3), some (.int v4), some (.ref v5), some (.ref v6)] [] Q))))) : WP (d + 1) mX11_request 154 [some (.ref v0), some (.int v1), some (.int v2), some (.int v3), some (.int v4), some (.ref v5), some (.ref v6)] [] h Q := by
  refine w_aload dX11_request_154 rfl ?_
  obtain ⟨g1, k⟩ := k
  refine w_getR dX11_request_156 f_11_198 t_8_1 g1 ?_
  refine w_iload_n dX11_request_159 rfl ?_
  refine w_iload_n dX11_request_160 rfl ?_
  obtain ⟨g2, k⟩ := k
  obtain ⟨g3, k⟩ := k
  exact w_virt (as1 := [.int v3, .int v2, .ref (hR h 801 v5)]) (as2 := [.ref (hR h 801 v5), .int v2, .int v3]) (rest := []) (lo2 := [some (.ref (hR h 801 v5)), some (.int v2), some (.int v3)]) dX11_request_161 c_11_213 rfl rfl rfl (Nat.le_of_ble_eq_true rfl) (Nat.le_of_ble_eq_true rfl) rfl (Nat.le_of_ble_eq_true rfl) rfl rfl g2 g3 k
theorem bX11_request_164 {d : Nat} {h : HP} {Q : Out → HP → Prop} {v0 : Nat} {v1 : Int32} {v2 : Int32} {v3 : Int32} {v4 : Int32} {v5 : Nat} {v6 : Nat} {s0 : Int32} (k : ((¬ s0 = 0) → WP (d + 1) mX11_request 191 [some (.ref v0), some (.int v1), some (.int v2), some (.int v3), some (.int v4), some (.ref v5), some (.ref v6)] [] h Q) ∧ ((¬ (¬ s0 = 0)) → (hK h v5 = 8) ∧ ((hK (nw h 3 0 4) v5 = 8) ∧ ((1 < (hN h)) ∧ (WP d mX3_init 0 [some (.ref (hN h)), some (.int (hI (nw h 3 0 4) 808 v5)), some (.int v2), some (.int v3), some (.int v4)] [] (nw h 3 0 4) (KK d mX11_request mX3_init 185 [some (.ref v0), some (.int v1), some (.int v2), some (.int v3), some (.int v4), some (.ref v5), some (.ref v6)] [.ref (hN h), .ref (hR h 801 v5)] Q)))))) : WP (d + 1) mX11_request 164 [some (.ref v0), some (.int v1), some (.int v2), some (.int v3), some (.int v4), some (.ref v5), some (.ref v6)] [.int s0] h Q := by
  refine w_if_ne (pc' := 191) dX11_request_164 rfl rfl ⟨fun c => ?_, fun c => ?_⟩
  · replace k := k.1 c
    exact k
  · replace k := k.2 c
    refine w_aload dX11_request_167 rfl ?_
    obtain ⟨g1, k⟩ := k
    refine w_getR dX11_request_169 f_11_198 t_8_1 g1 ?_
    refine w_new dX11_request_172 nr_11_216 ?_
    refine w_dup dX11_request_175 rfl ?_
    refine w_aload dX11_request_176 rfl ?_
    obtain ⟨g2, k⟩ := k
    refine w_getI dX11_request_178 f_11_175 t_8_8 g2 ?_
    refine w_iload_n dX11_request_181 rfl ?_
    refine w_iload_n dX11_request_182 rfl ?_
    refine w_iload dX11_request_183 rfl ?_
    obtain ⟨g3, k⟩ := k
    exact w_spec (as1 := [.int v4, .int v3, .int v2, .int (hI (nw h 3 0 4) 808 v5), .ref (hN h)]) (as2 := [.ref (hN h), .int (hI (nw h 3 0 4) 808 v5), .int v2, .int v3, .int v4]) (rest := [.ref (hN h), .ref (hR h 801 v5)]) (lo2 := [some (.ref (hN h)), some (.int (hI (nw h 3 0 4) 808 v5)), some (.int v2), some (.int v3), some (.int v4)]) dX11_request_185 c_11_218 rfl rfl rfl (Nat.le_of_ble_eq_true rfl) (Nat.le_of_ble_eq_true rfl) rfl (Nat.le_of_ble_eq_true rfl) rfl rfl g3 k
theorem bX11_request_188 {d : Nat} {h : HP} {Q : Out → HP → Prop} {v0 : Nat} {v1 : Int32} {v2 : Int32} {v3 : Int32} {v4 : Int32} {v5 : Nat} {v6 : Nat} {s0 : Nat} {s1 : Nat} (k : (1 < s1) ∧ ((hK h s1 = 7) ∧ (WP d mX7_put 0 [some (.ref s1), some (.ref s0)] [] h (KK d mX11_request mX7_put 188 [some (.ref v0), some (.int v1), some (.int v2), some (.int v3), some (.int v4), some (.ref v5), some (.ref v6)] [] Q)))) : WP (d + 1) mX11_request 188 [some (.ref v0), some (.int v1), some (.int v2), some (.int v3), some (.int v4), some (.ref v5), some (.ref v6)] [.ref s0, .ref s1] h Q := by
  obtain ⟨g1, k⟩ := k
  obtain ⟨g2, k⟩ := k
  exact w_virt (as1 := [.ref s0, .ref s1]) (as2 := [.ref s1, .ref s0]) (rest := []) (lo2 := [some (.ref s1), some (.ref s0)]) dX11_request_188 c_11_221 rfl rfl rfl (Nat.le_of_ble_eq_true rfl) (Nat.le_of_ble_eq_true rfl) rfl (Nat.le_of_ble_eq_true rfl) rfl rfl g1 g2 k
theorem bX11_request_191 {d : Nat} {h : HP} {Q : Out → HP → Prop} {v0 : Nat} {v1 : Int32} {v2 : Int32} {v3 : Int32} {v4 : Int32} {v5 : Nat} {v6 : Nat} (k : (hK h v5 = 8) ∧ ((1 < (hR h 801 v5)) ∧ ((hK h (hR h 801 v5) = 7) ∧ (WP d mX7_numberOf 0 [some (.ref (hR h 801 v5)), some (.int v2), some (.int v3), none] [] h (KK d mX11_request mX7_numberOf 198 [some (.ref v0), some (.int v1), some (.int v2), some (.int v3), some (.int v4), some (.ref v5), some (.ref v6)] [] Q))))) : WP (d + 1) mX11_request 191 [some (.ref v0), some (.int v1), some (.int v2), some (.int v3), some (.int v4), some (.ref v5), some (.ref v6)] [] h Q := by
  refine w_aload dX11_request_191 rfl ?_
  obtain ⟨g1, k⟩ := k
  refine w_getR dX11_request_193 f_11_198 t_8_1 g1 ?_
  refine w_iload_n dX11_request_196 rfl ?_
  refine w_iload_n dX11_request_197 rfl ?_
  obtain ⟨g2, k⟩ := k
  obtain ⟨g3, k⟩ := k
  exact w_virt (as1 := [.int v3, .int v2, .ref (hR h 801 v5)]) (as2 := [.ref (hR h 801 v5), .int v2, .int v3]) (rest := []) (lo2 := [some (.ref (hR h 801 v5)), some (.int v2), some (.int v3), none]) dX11_request_198 c_11_225 rfl rfl rfl (Nat.le_of_ble_eq_true rfl) (Nat.le_of_ble_eq_true rfl) rfl (Nat.le_of_ble_eq_true rfl) rfl rfl g2 g3 k
theorem bX11_request_201 {d : Nat} {h : HP} {Q : Out → HP → Prop} {v0 : Nat} {v1 : Int32} {v2 : Int32} {v3 : Int32} {v4 : Int32} {v5 : Nat} {v6 : Nat} {s0 : Int32} (k : Q (.inl (some (.int s0))) h) : WP d mX11_request 201 [some (.ref v0), some (.int v1), some (.int v2), some (.int v3), some (.int v4), some (.ref v5), some (.ref v6)] [.int s0] h Q := by
  exact w_ireturn dX11_request_201 rfl k
theorem bX11_read_0 {d : Nat} {h : HP} {Q : Out → HP → Prop} {v0 : Nat} {v1 : Int32} {u2 : Option Value} {u3 : Option Value} (k : (1 < v0) ∧ ((hK h v0 = 11) ∧ (WP d mX11_needMachine 0 [some (.ref v0), some (.int v1)] [] h (KK d mX11_read mX11_needMachine 2 [some (.ref v0), some (.int v1), u2, u3] [] Q)))) : WP (d + 1) mX11_read 0 [some (.ref v0), some (.int v1), u2, u3] [] h Q := by
  refine w_aload_n dX11_read_0 rfl ?_
  refine w_iload_n dX11_read_1 rfl ?_
  obtain ⟨g1, k⟩ := k
  obtain ⟨g2, k⟩ := k
  exact w_virt (as1 := [.int v1, .ref v0]) (as2 := [.ref v0, .int v1]) (rest := []) (lo2 := [some (.ref v0), some (.int v1)]) dX11_read_2 c_11_62 rfl rfl rfl (Nat.le_of_ble_eq_true rfl) (Nat.le_of_ble_eq_true rfl) rfl (Nat.le_of_ble_eq_true rfl) rfl rfl g1 g2 k
theorem bX11_read_5 {d : Nat} {h : HP} {Q : Out → HP → Prop} {v0 : Nat} {v1 : Int32} {u2 : Option Value} {u3 : Option Value} {s0 : Nat} (k : (hK h s0 = 8) ∧ ((((hI h 804 s0) = 0) → Q (.inr 2) (thr h)) ∧ ((¬ ((hI h 804 s0) = 0)) → (1 < s0) ∧ (WP d mX8_holdsLease 0 [some (.ref s0)] [] h (KK d mX11_read mX8_holdsLease 14 [some (.ref v0), some (.int v1), some (.ref s0), u3] [] Q))))) : WP (d + 1) mX11_read 5 [some (.ref v0), some (.int v1), u2, u3] [.ref s0] h Q := by
  refine w_astore_n (lo' := [some (.ref v0), some (.int v1), some (.ref s0), u3]) dX11_read_5 (ltQ rfl) rfl ?_
  refine w_aload_n dX11_read_6 rfl ?_
  obtain ⟨g1, k⟩ := k
  refine w_getZ dX11_read_7 f_11_69 t_8_4 g1 ?_
  refine w_if_eq (pc' := 37) dX11_read_10 rfl rfl ⟨fun c => ?_, fun c => ?_⟩
  · replace k := k.1 c
    exact w_thr dX11_read_37 nx_11_127 tw_X11_read_37 (Nat.le_of_ble_eq_true rfl) rfl rfl k
  · replace k := k.2 c
    refine w_aload_n dX11_read_13 rfl ?_
    obtain ⟨g2, k⟩ := k
    exact w_virt (as1 := [.ref s0]) (as2 := [.ref s0]) (rest := []) (lo2 := [some (.ref s0)]) dX11_read_14 c_11_229 rfl rfl rfl (Nat.le_of_ble_eq_true rfl) (Nat.le_of_ble_eq_true rfl) rfl (Nat.le_of_ble_eq_true rfl) rfl rfl g2 g1 k
theorem bX11_read_17 {d : Nat} {h : HP} {Q : Out → HP → Prop} {v0 : Nat} {v1 : Int32} {v2 : Nat} {u3 : Option Value} {s0 : Int32} (k : ((s0 = 0) → Q (.inr 2) (thr h)) ∧ ((¬ (s0 = 0)) → (1 < v2) ∧ ((hK h v2 = 8) ∧ (WP d mX8_agreedInItsTerm 0 [some (.ref v2)] [] h (KK d mX11_read mX8_agreedInItsTerm 21 [some (.ref v0), some (.int v1), some (.ref v2), u3] [] Q))))) : WP (d + 1) mX11_read 17 [some (.ref v0), some (.int v1), some (.ref v2), u3] [.int s0] h Q := by
  refine w_if_eq (pc' := 37) dX11_read_17 rfl rfl ⟨fun c => ?_, fun c => ?_⟩
  · replace k := k.1 c
    exact w_thr dX11_read_37 nx_11_127 tw_X11_read_37 (Nat.le_of_ble_eq_true rfl) rfl rfl k
  · replace k := k.2 c
    refine w_aload_n dX11_read_20 rfl ?_
    obtain ⟨g1, k⟩ := k
    obtain ⟨g2, k⟩ := k
    exact w_virt (as1 := [.ref v2]) (as2 := [.ref v2]) (rest := []) (lo2 := [some (.ref v2)]) dX11_read_21 c_11_232 rfl rfl rfl (Nat.le_of_ble_eq_true rfl) (Nat.le_of_ble_eq_true rfl) rfl (Nat.le_of_ble_eq_true rfl) rfl rfl g1 g2 k
theorem bX11_read_24 {d : Nat} {h : HP} {Q : Out → HP → Prop} {v0 : Nat} {v1 : Int32} {v2 : Nat} {u3 : Option Value} {s0 : Int32} (k : ((s0 = 0) → Q (.inr 2) (thr h)) ∧ ((¬ (s0 = 0)) → (hK h v0 = 11) ∧ ((1 < (hR h 1104 v0)) ∧ ((hK h (hR h 1104 v0) = 4) ∧ (WP d mX4_isFull 0 [some (.ref (hR h 1104 v0))] [] h (KK d mX11_read mX4_isFull 31 [some (.ref v0), some (.int v1), some (.ref v2), u3] [] Q)))))) : WP (d + 1) mX11_read 24 [some (.ref v0), some (.int v1), some (.ref v2), u3] [.int s0] h Q := by
  refine w_if_eq (pc' := 37) dX11_read_24 rfl rfl ⟨fun c => ?_, fun c => ?_⟩
  · replace k := k.1 c
    exact w_thr dX11_read_37 nx_11_127 tw_X11_read_37 (Nat.le_of_ble_eq_true rfl) rfl rfl k
  · replace k := k.2 c
    refine w_aload_n dX11_read_27 rfl ?_
    obtain ⟨g1, k⟩ := k
    refine w_getR dX11_read_28 f_11_41 t_11_4 g1 ?_
    obtain ⟨g2, k⟩ := k
    obtain ⟨g3, k⟩ := k
    exact w_virt (as1 := [.ref (hR h 1104 v0)]) (as2 := [.ref (hR h 1104 v0)]) (rest := []) (lo2 := [some (.ref (hR h 1104 v0))]) dX11_read_31 c_11_207 rfl rfl rfl (Nat.le_of_ble_eq_true rfl) (Nat.le_of_ble_eq_true rfl) rfl (Nat.le_of_ble_eq_true rfl) rfl rfl g2 g3 k
theorem bX11_read_34 {d : Nat} {h : HP} {Q : Out → HP → Prop} {v0 : Nat} {v1 : Int32} {v2 : Nat} {u3 : Option Value} {s0 : Int32} (k : ((s0 = 0) → (hK h v0 = 11) ∧ ((1 < (hR h 1104 v0)) ∧ ((hK h (hR h 1104 v0) = 4) ∧ (WP d mX4_goOn 0 [some (.ref (hR h 1104 v0))] [] h (KK d mX11_read mX4_goOn 51 [some (.ref v0), some (.int v1), some (.ref v2), u3] [] Q))))) ∧ ((¬ (s0 = 0)) → Q (.inr 2) (thr h))) : WP (d + 1) mX11_read 34 [some (.ref v0), some (.int v1), some (.ref v2), u3] [.int s0] h Q := by
  refine w_if_eq (pc' := 47) dX11_read_34 rfl rfl ⟨fun c => ?_, fun c => ?_⟩
  · replace k := k.1 c
    refine w_aload_n dX11_read_47 rfl ?_
    obtain ⟨g1, k⟩ := k
    refine w_getR dX11_read_48 f_11_41 t_11_4 g1 ?_
    obtain ⟨g2, k⟩ := k
    obtain ⟨g3, k⟩ := k
    exact w_virt (as1 := [.ref (hR h 1104 v0)]) (as2 := [.ref (hR h 1104 v0)]) (rest := []) (lo2 := [some (.ref (hR h 1104 v0))]) dX11_read_51 c_11_66 rfl rfl rfl (Nat.le_of_ble_eq_true rfl) (Nat.le_of_ble_eq_true rfl) rfl (Nat.le_of_ble_eq_true rfl) rfl rfl g2 g3 k
  · replace k := k.2 c
    exact w_thr dX11_read_37 nx_11_127 tw_X11_read_37 (Nat.le_of_ble_eq_true rfl) rfl rfl k
theorem bX11_read_54 {d : Nat} {h : HP} {Q : Out → HP → Prop} {v0 : Nat} {v1 : Int32} {v2 : Nat} {u3 : Option Value} (k : (hK h v2 = 8) ∧ ((1 < (hR h 801 v2)) ∧ ((hK h (hR h 801 v2) = 7) ∧ (WP d mX7_valueUpTo 0 [some (.ref (hR h 801 v2)), some (.int (hI h 810 v2)), none, none] [] h (KK d mX11_read mX7_valueUpTo 62 [some (.ref v0), some (.int v1), some (.ref v2), u3] [] Q))))) : WP (d + 1) mX11_read 54 [some (.ref v0), some (.int v1), some (.ref v2), u3] [] h Q := by
  refine w_aload_n dX11_read_54 rfl ?_
  obtain ⟨g1, k⟩ := k
  refine w_getR dX11_read_55 f_11_198 t_8_1 g1 ?_
  refine w_aload_n dX11_read_58 rfl ?_
  refine w_getI dX11_read_59 f_11_237 t_8_10 g1 ?_
  obtain ⟨g2, k⟩ := k
  obtain ⟨g3, k⟩ := k
  exact w_virt (as1 := [.int (hI h 810 v2), .ref (hR h 801 v2)]) (as2 := [.ref (hR h 801 v2), .int (hI h 810 v2)]) (rest := []) (lo2 := [some (.ref (hR h 801 v2)), some (.int (hI h 810 v2)), none, none]) dX11_read_62 c_11_240 rfl rfl rfl (Nat.le_of_ble_eq_true rfl) (Nat.le_of_ble_eq_true rfl) rfl (Nat.le_of_ble_eq_true rfl) rfl rfl g2 g3 k
theorem bX11_read_65 {d : Nat} {h : HP} {Q : Out → HP → Prop} {v0 : Nat} {v1 : Int32} {v2 : Nat} {u3 : Option Value} {s0 : Int32} (k : (hK h v0 = 11) ∧ ((1 < (hR h 1104 v0)) ∧ ((hK h (hR h 1104 v0) = 4) ∧ (WP d mX4_addRead 0 [some (.ref (hR h 1104 v0)), some (.int s0), none] [] h (KK d mX11_read mX4_addRead 71 [some (.ref v0), some (.int v1), some (.ref v2), some (.int s0)] [] Q))))) : WP (d + 1) mX11_read 65 [some (.ref v0), some (.int v1), some (.ref v2), u3] [.int s0] h Q := by
  refine w_istore_n (lo' := [some (.ref v0), some (.int v1), some (.ref v2), some (.int s0)]) dX11_read_65 (ltQ rfl) rfl ?_
  refine w_aload_n dX11_read_66 rfl ?_
  obtain ⟨g1, k⟩ := k
  refine w_getR dX11_read_67 f_11_41 t_11_4 g1 ?_
  refine w_iload_n dX11_read_70 rfl ?_
  obtain ⟨g2, k⟩ := k
  obtain ⟨g3, k⟩ := k
  exact w_virt (as1 := [.int s0, .ref (hR h 1104 v0)]) (as2 := [.ref (hR h 1104 v0), .int s0]) (rest := []) (lo2 := [some (.ref (hR h 1104 v0)), some (.int s0), none]) dX11_read_71 c_11_244 rfl rfl rfl (Nat.le_of_ble_eq_true rfl) (Nat.le_of_ble_eq_true rfl) rfl (Nat.le_of_ble_eq_true rfl) rfl rfl g2 g3 k
theorem bX11_read_74 {d : Nat} {h : HP} {Q : Out → HP → Prop} {v0 : Nat} {v1 : Int32} {v2 : Nat} {v3 : Int32} (k : Q (.inl (some (.int v3))) h) : WP d mX11_read 74 [some (.ref v0), some (.int v1), some (.ref v2), some (.int v3)] [] h Q := by
  refine w_iload_n dX11_read_74 rfl ?_
  exact w_ireturn dX11_read_75 rfl k
theorem bX11_propose_0 {d : Nat} {h : HP} {Q : Out → HP → Prop} {v0 : Nat} {v1 : Int32} {v2 : Int32} {v3 : Int32} {u4 : Option Value} (k : (1 < v0) ∧ ((hK h v0 = 11) ∧ (WP d mX11_needMachine 0 [some (.ref v0), some (.int v1)] [] h (KK d mX11_propose mX11_needMachine 2 [some (.ref v0), some (.int v1), some (.int v2), some (.int v3), u4] [] Q)))) : WP (d + 1) mX11_propose 0 [some (.ref v0), some (.int v1), some (.int v2), some (.int v3), u4] [] h Q := by
  refine w_aload_n dX11_propose_0 rfl ?_
  refine w_iload_n dX11_propose_1 rfl ?_
  obtain ⟨g1, k⟩ := k
  obtain ⟨g2, k⟩ := k
  exact w_virt (as1 := [.int v1, .ref v0]) (as2 := [.ref v0, .int v1]) (rest := []) (lo2 := [some (.ref v0), some (.int v1)]) dX11_propose_2 c_11_62 rfl rfl rfl (Nat.le_of_ble_eq_true rfl) (Nat.le_of_ble_eq_true rfl) rfl (Nat.le_of_ble_eq_true rfl) rfl rfl g1 g2 k
theorem bX11_propose_5 {d : Nat} {h : HP} {Q : Out → HP → Prop} {v0 : Nat} {v1 : Int32} {v2 : Int32} {v3 : Int32} {u4 : Option Value} {s0 : Nat} (k : (1 < v0) ∧ ((hK h v0 = 11) ∧ (WP d mX11_needChoice 0 [some (.ref v0), some (.ref s0), some (.int v2)] [] h (KK d mX11_propose mX11_needChoice 11 [some (.ref v0), some (.int v1), some (.int v2), some (.int v3), some (.ref s0)] [] Q)))) : WP (d + 1) mX11_propose 5 [some (.ref v0), some (.int v1), some (.int v2), some (.int v3), u4] [.ref s0] h Q := by
  refine w_astore (lo' := [some (.ref v0), some (.int v1), some (.int v2), some (.int v3), some (.ref s0)]) dX11_propose_5 (ltQ rfl) rfl ?_
  refine w_aload_n dX11_propose_7 rfl ?_
  refine w_aload dX11_propose_8 rfl ?_
  refine w_iload_n dX11_propose_10 rfl ?_
  obtain ⟨g1, k⟩ := k
  obtain ⟨g2, k⟩ := k
  exact w_virt (as1 := [.int v2, .ref s0, .ref v0]) (as2 := [.ref v0, .ref s0, .int v2]) (rest := []) (lo2 := [some (.ref v0), some (.ref s0), some (.int v2)]) dX11_propose_11 c_11_247 rfl rfl rfl (Nat.le_of_ble_eq_true rfl) (Nat.le_of_ble_eq_true rfl) rfl (Nat.le_of_ble_eq_true rfl) rfl rfl g1 g2 k
theorem bX11_propose_14 {d : Nat} {h : HP} {Q : Out → HP → Prop} {v0 : Nat} {v1 : Int32} {v2 : Int32} {v3 : Int32} {v4 : Nat} {s0 : Nat} (k : WP d mX11_needRange 0 [some (.int v3), some (.int (0 : Int32)), some (.int (999 : Int32))] [] h (KK d mX11_propose mX11_needRange 20 [some (.ref v0), some (.int v1), some (.int v2), some (.int v3), some (.ref v4)] [] Q)) : WP (d + 1) mX11_propose 14 [some (.ref v0), some (.int v1), some (.int v2), some (.int v3), some (.ref v4)] [.ref s0] h Q := by
  refine w_pop dX11_propose_14 rfl ?_
  refine w_iload_n dX11_propose_15 rfl ?_
  refine w_iconst dX11_propose_16 i1_0 ?_
  refine w_sipush dX11_propose_17 i3_999 ?_
  exact w_stat (as1 := [.int (999 : Int32), .int (0 : Int32), .int v3]) (as2 := [.int v3, .int (0 : Int32), .int (999 : Int32)]) (rest := []) (lo2 := [some (.int v3), some (.int (0 : Int32)), some (.int (999 : Int32))]) dX11_propose_20 c_11_90 rfl rfl rfl (Nat.le_of_ble_eq_true rfl) (Nat.le_of_ble_eq_true rfl) rfl (Nat.le_of_ble_eq_true rfl) rfl k
theorem bX11_propose_23 {d : Nat} {h : HP} {Q : Out → HP → Prop} {v0 : Nat} {v1 : Int32} {v2 : Int32} {v3 : Int32} {v4 : Nat} (k : (hK h v4 = 8) ∧ (((¬ (hI h 804 v4) = 0) → (hK h v0 = 11) ∧ ((1 < (hR h 1104 v0)) ∧ ((hK h (hR h 1104 v0) = 4) ∧ (WP d mX4_goOn 0 [some (.ref (hR h 1104 v0))] [] h (KK d mX11_propose mX4_goOn 45 [some (.ref v0), some (.int v1), some (.int v2), some (.int v3), some (.ref v4)] [] Q))))) ∧ ((¬ (¬ (hI h 804 v4) = 0)) → Q (.inr 2) (thr h)))) : WP (d + 1) mX11_propose 23 [some (.ref v0), some (.int v1), some (.int v2), some (.int v3), some (.ref v4)] [] h Q := by
  refine w_aload dX11_propose_23 rfl ?_
  obtain ⟨g1, k⟩ := k
  refine w_getZ dX11_propose_25 f_11_69 t_8_4 g1 ?_
  refine w_if_ne (pc' := 41) dX11_propose_28 rfl rfl ⟨fun c => ?_, fun c => ?_⟩
  · replace k := k.1 c
    refine w_aload_n dX11_propose_41 rfl ?_
    obtain ⟨g2, k⟩ := k
    refine w_getR dX11_propose_42 f_11_41 t_11_4 g2 ?_
    obtain ⟨g3, k⟩ := k
    obtain ⟨g4, k⟩ := k
    exact w_virt (as1 := [.ref (hR h 1104 v0)]) (as2 := [.ref (hR h 1104 v0)]) (rest := []) (lo2 := [some (.ref (hR h 1104 v0))]) dX11_propose_45 c_11_66 rfl rfl rfl (Nat.le_of_ble_eq_true rfl) (Nat.le_of_ble_eq_true rfl) rfl (Nat.le_of_ble_eq_true rfl) rfl rfl g3 g4 k
  · replace k := k.2 c
    exact w_thr dX11_propose_31 nx_11_127 tw_X11_propose_31 (Nat.le_of_ble_eq_true rfl) rfl rfl k
theorem bX11_propose_48 {d : Nat} {h : HP} {Q : Out → HP → Prop} {v0 : Nat} {v1 : Int32} {v2 : Int32} {v3 : Int32} {v4 : Nat} (k : (hK h v0 = 11) ∧ ((1 < (hR h 1103 v0)) ∧ ((hK h (hR h 1103 v0) = 1) ∧ (WP d mX1_letPropose 0 [some (.ref (hR h 1103 v0)), some (.ref v4), some (.int v2), some (.int v3), none, none] [] h (KK d mX11_propose mX1_letPropose 56 [some (.ref v0), some (.int v1), some (.int v2), some (.int v3), some (.ref v4)] [] Q))))) : WP (d + 1) mX11_propose 48 [some (.ref v0), some (.int v1), some (.int v2), some (.int v3), some (.ref v4)] [] h Q := by
  refine w_aload_n dX11_propose_48 rfl ?_
  obtain ⟨g1, k⟩ := k
  refine w_getR dX11_propose_49 f_11_34 t_11_3 g1 ?_
  refine w_aload dX11_propose_52 rfl ?_
  refine w_iload_n dX11_propose_54 rfl ?_
  refine w_iload_n dX11_propose_55 rfl ?_
  obtain ⟨g2, k⟩ := k
  obtain ⟨g3, k⟩ := k
  exact w_virt (as1 := [.int v3, .int v2, .ref v4, .ref (hR h 1103 v0)]) (as2 := [.ref (hR h 1103 v0), .ref v4, .int v2, .int v3]) (rest := []) (lo2 := [some (.ref (hR h 1103 v0)), some (.ref v4), some (.int v2), some (.int v3), none, none]) dX11_propose_56 c_11_253 rfl rfl rfl (Nat.le_of_ble_eq_true rfl) (Nat.le_of_ble_eq_true rfl) rfl (Nat.le_of_ble_eq_true rfl) rfl rfl g2 g3 k
theorem bX11_propose_59 {d : Nat} {h : HP} {Q : Out → HP → Prop} {v0 : Nat} {v1 : Int32} {v2 : Int32} {v3 : Int32} {v4 : Nat} {s0 : Int32} (k : Q (.inl (some (.int s0))) h) : WP d mX11_propose 59 [some (.ref v0), some (.int v1), some (.int v2), some (.int v3), some (.ref v4)] [.int s0] h Q := by
  exact w_ireturn dX11_propose_59 rfl k
theorem bX11_steps_0 {d : Nat} {h : HP} {Q : Out → HP → Prop} {v0 : Nat} (k : (hK h v0 = 11) ∧ ((hK h (hR h 1104 v0) = 4) ∧ (Q (.inl (some (.int (hI h 403 (hR h 1104 v0))))) h))) : WP d mX11_steps 0 [some (.ref v0)] [] h Q := by
  refine w_aload_n dX11_steps_0 rfl ?_
  obtain ⟨g1, k⟩ := k
  refine w_getR dX11_steps_1 f_11_41 t_11_4 g1 ?_
  obtain ⟨g2, k⟩ := k
  refine w_getI dX11_steps_4 f_11_257 t_4_3 g2 ?_
  exact w_ireturn dX11_steps_7 rfl k
theorem bX11_messages_0 {d : Nat} {h : HP} {Q : Out → HP → Prop} {v0 : Nat} (k : (hK h v0 = 11) ∧ ((hK h (hR h 1101 v0) = 10) ∧ (Q (.inl (some (.int (hI h 1001 (hR h 1101 v0))))) h))) : WP d mX11_messages 0 [some (.ref v0)] [] h Q := by
  refine w_aload_n dX11_messages_0 rfl ?_
  obtain ⟨g1, k⟩ := k
  refine w_getR dX11_messages_1 f_11_18 t_11_1 g1 ?_
  obtain ⟨g2, k⟩ := k
  refine w_getI dX11_messages_4 f_11_150 t_10_1 g2 ?_
  exact w_ireturn dX11_messages_7 rfl k
theorem bX11_message_0 {d : Nat} {h : HP} {Q : Out → HP → Prop} {v0 : Nat} {v1 : Int32} {v2 : Int32} {u3 : Option Value} (k : (1 < v0) ∧ ((hK h v0 = 11) ∧ (WP d mX11_needMessage 0 [some (.ref v0), some (.int v1), none] [] h (KK d mX11_message mX11_needMessage 2 [some (.ref v0), some (.int v1), some (.int v2), u3] [] Q)))) : WP (d + 1) mX11_message 0 [some (.ref v0), some (.int v1), some (.int v2), u3] [] h Q := by
  refine w_aload_n dX11_message_0 rfl ?_
  refine w_iload_n dX11_message_1 rfl ?_
  obtain ⟨g1, k⟩ := k
  obtain ⟨g2, k⟩ := k
  exact w_virt (as1 := [.int v1, .ref v0]) (as2 := [.ref v0, .int v1]) (rest := []) (lo2 := [some (.ref v0), some (.int v1), none]) dX11_message_2 c_11_112 rfl rfl rfl (Nat.le_of_ble_eq_true rfl) (Nat.le_of_ble_eq_true rfl) rfl (Nat.le_of_ble_eq_true rfl) rfl rfl g1 g2 k
theorem bX11_message_5 {d : Nat} {h : HP} {Q : Out → HP → Prop} {v0 : Nat} {v1 : Int32} {v2 : Int32} {u3 : Option Value} {s0 : Nat} (k : ((v2 = (0 : Int32)) → (hK h s0 = 9) ∧ (Q (.inl (some (.int (hI h 900 s0)))) h)) ∧ ((v2 = (1 : Int32)) → (hK h s0 = 9) ∧ (Q (.inl (some (.int (hI h 901 s0)))) h)) ∧ ((v2 = (2 : Int32)) → (hK h s0 = 9) ∧ (Q (.inl (some (.int (hI h 902 s0)))) h)) ∧ ((v2 = (3 : Int32)) → (hK h s0 = 9) ∧ (Q (.inl (some (.int (hI h 903 s0)))) h)) ∧ ((v2 = (4 : Int32)) → (hK h s0 = 9) ∧ (Q (.inl (some (.int (hI h 910 s0)))) h)) ∧ ((¬ v2 = (0 : Int32) ∧ ¬ v2 = (1 : Int32) ∧ ¬ v2 = (2 : Int32) ∧ ¬ v2 = (3 : Int32) ∧ ¬ v2 = (4 : Int32)) → Q (.inr 1) (thr h))) : WP d mX11_message 5 [some (.ref v0), some (.int v1), some (.int v2), u3] [.ref s0] h Q := by
  refine w_astore_n (lo' := [some (.ref v0), some (.int v1), some (.int v2), some (.ref s0)]) dX11_message_5 (ltQ rfl) rfl ?_
  refine w_iload_n dX11_message_6 rfl ?_
  by_cases c0 : v2 = (0 : Int32)
  · replace k := k.1 c0
    refine w_tsw (pc' := 40) dX11_message_7 (by rw [c0]; rfl) ?_
    refine w_aload_n dX11_message_40 rfl ?_
    obtain ⟨g1, k⟩ := k
    refine w_getI dX11_message_41 f_11_138 t_9_0 g1 ?_
    exact w_ireturn dX11_message_44 rfl k
  replace k := k.2
  by_cases c1 : v2 = (1 : Int32)
  · replace k := k.1 c1
    refine w_tsw (pc' := 45) dX11_message_7 (by rw [c1]; rfl) ?_
    refine w_aload_n dX11_message_45 rfl ?_
    obtain ⟨g2, k⟩ := k
    refine w_getI dX11_message_46 f_11_121 t_9_1 g2 ?_
    exact w_ireturn dX11_message_49 rfl k
  replace k := k.2
  by_cases c2 : v2 = (2 : Int32)
  · replace k := k.1 c2
    refine w_tsw (pc' := 50) dX11_message_7 (by rw [c2]; rfl) ?_
    refine w_aload_n dX11_message_50 rfl ?_
    obtain ⟨g3, k⟩ := k
    refine w_getI dX11_message_51 f_11_116 t_9_2 g3 ?_
    exact w_ireturn dX11_message_54 rfl k
  replace k := k.2
  by_cases c3 : v2 = (3 : Int32)
  · replace k := k.1 c3
    refine w_tsw (pc' := 55) dX11_message_7 (by rw [c3]; rfl) ?_
    refine w_aload_n dX11_message_55 rfl ?_
    obtain ⟨g4, k⟩ := k
    refine w_getI dX11_message_56 f_11_153 t_9_3 g4 ?_
    exact w_ireturn dX11_message_59 rfl k
  replace k := k.2
  by_cases c4 : v2 = (4 : Int32)
  · replace k := k.1 c4
    refine w_tsw (pc' := 60) dX11_message_7 (by rw [c4]; rfl) ?_
    refine w_aload_n dX11_message_60 rfl ?_
    obtain ⟨g5, k⟩ := k
    refine w_getI dX11_message_61 f_11_260 t_9_10 g5 ?_
    exact w_ireturn dX11_message_64 rfl k
  replace k := k.2
  have e0 := ts_ne c0 (k := 0) rfl
  have e1 := ts_ne c1 (k := 1) rfl
  have e2 := ts_ne c2 (k := 2) rfl
  have e3 := ts_ne c3 (k := 3) rfl
  have e4 := ts_ne c4 (k := 4) rfl
  replace k := k ⟨c0, c1, c2, c3, c4⟩
  refine w_tsw (pc' := 65) dX11_message_7 (ts_def (x := v2) (by omega) rfl rfl) ?_
  exact w_thr dX11_message_65 nx_11_51 tw_X11_message_65 (Nat.le_of_ble_eq_true rfl) rfl rfl k
theorem bX11_of_0 {d : Nat} {h : HP} {Q : Out → HP → Prop} {v0 : Nat} {v1 : Int32} {v2 : Int32} {u3 : Option Value} (k : (1 < v0) ∧ ((hK h v0 = 11) ∧ (WP d mX11_needMachine 0 [some (.ref v0), some (.int v1)] [] h (KK d mX11_of mX11_needMachine 2 [some (.ref v0), some (.int v1), some (.int v2), u3] [] Q)))) : WP (d + 1) mX11_of 0 [some (.ref v0), some (.int v1), some (.int v2), u3] [] h Q := by
  refine w_aload_n dX11_of_0 rfl ?_
  refine w_iload_n dX11_of_1 rfl ?_
  obtain ⟨g1, k⟩ := k
  obtain ⟨g2, k⟩ := k
  exact w_virt (as1 := [.int v1, .ref v0]) (as2 := [.ref v0, .int v1]) (rest := []) (lo2 := [some (.ref v0), some (.int v1)]) dX11_of_2 c_11_62 rfl rfl rfl (Nat.le_of_ble_eq_true rfl) (Nat.le_of_ble_eq_true rfl) rfl (Nat.le_of_ble_eq_true rfl) rfl rfl g1 g2 k
theorem bX11_of_5 {d : Nat} {h : HP} {Q : Out → HP → Prop} {v0 : Nat} {v1 : Int32} {v2 : Int32} {u3 : Option Value} {s0 : Nat} (k : ((v2 = (0 : Int32)) → (hK h s0 = 8) ∧ (Q (.inl (some (.int (hI h 807 s0)))) h)) ∧ ((v2 = (1 : Int32)) → (hK h s0 = 8) ∧ (Q (.inl (some (.int (hI h 808 s0)))) h)) ∧ ((v2 = (2 : Int32)) → (hK h s0 = 8) ∧ (Q (.inl (some (.int (hI h 809 s0)))) h)) ∧ ((v2 = (3 : Int32)) → (hK h s0 = 8) ∧ ((hK h (hR h 801 s0) = 7) ∧ (Q (.inl (some (.int (hI h 701 (hR h 801 s0))))) h))) ∧ ((v2 = (4 : Int32)) → (hK h s0 = 8) ∧ (Q (.inl (some (.int (hI h 810 s0)))) h)) ∧ ((v2 = (5 : Int32)) → (hK h s0 = 8) ∧ ((1 < (hR h 801 s0)) ∧ ((hK h (hR h 801 s0) = 7) ∧ (WP d mX7_valueUpTo 0 [some (.ref (hR h 801 s0)), some (.int (hI h 810 s0)), none, none] [] h (KK d mX11_of mX7_valueUpTo 88 [some (.ref v0), some (.int v1), some (.int v2), some (.ref s0)] [] Q))))) ∧ ((v2 = (6 : Int32)) → (1 < s0) ∧ ((hK h s0 = 8) ∧ (WP d mX8_hasPromised 0 [some (.ref s0)] [] h (KK d mX11_of mX8_hasPromised 93 [some (.ref v0), some (.int v1), some (.int v2), some (.ref s0)] [] Q)))) ∧ ((v2 = (7 : Int32)) → (hK h s0 = 8) ∧ ((((hI h 804 s0) = 0) → Q (.inl (some (.int (0 : Int32)))) h) ∧ ((¬ ((hI h 804 s0) = 0)) → Q (.inl (some (.int (1 : Int32)))) h))) ∧ ((¬ v2 = (0 : Int32) ∧ ¬ v2 = (1 : Int32) ∧ ¬ v2 = (2 : Int32) ∧ ¬ v2 = (3 : Int32) ∧ ¬ v2 = (4 : Int32) ∧ ¬ v2 = (5 : Int32) ∧ ¬ v2 = (6 : Int32) ∧ ¬ v2 = (7 : Int32)) → Q (.inr 1) (thr h))) : WP (d + 1) mX11_of 5 [some (.ref v0), some (.int v1), some (.int v2), u3] [.ref s0] h Q := by
  refine w_astore_n (lo' := [some (.ref v0), some (.int v1), some (.int v2), some (.ref s0)]) dX11_of_5 (ltQ rfl) rfl ?_
  refine w_iload_n dX11_of_6 rfl ?_
  by_cases c0 : v2 = (0 : Int32)
  · replace k := k.1 c0
    refine w_tsw (pc' := 52) dX11_of_7 (by rw [c0]; rfl) ?_
    refine w_aload_n dX11_of_52 rfl ?_
    obtain ⟨g1, k⟩ := k
    refine w_getI dX11_of_53 f_11_163 t_8_7 g1 ?_
    exact w_ireturn dX11_of_56 rfl k
  replace k := k.2
  by_cases c1 : v2 = (1 : Int32)
  · replace k := k.1 c1
    refine w_tsw (pc' := 57) dX11_of_7 (by rw [c1]; rfl) ?_
    refine w_aload_n dX11_of_57 rfl ?_
    obtain ⟨g2, k⟩ := k
    refine w_getI dX11_of_58 f_11_175 t_8_8 g2 ?_
    exact w_ireturn dX11_of_61 rfl k
  replace k := k.2
  by_cases c2 : v2 = (2 : Int32)
  · replace k := k.1 c2
    refine w_tsw (pc' := 62) dX11_of_7 (by rw [c2]; rfl) ?_
    refine w_aload_n dX11_of_62 rfl ?_
    obtain ⟨g3, k⟩ := k
    refine w_getI dX11_of_63 f_11_265 t_8_9 g3 ?_
    exact w_ireturn dX11_of_66 rfl k
  replace k := k.2
  by_cases c3 : v2 = (3 : Int32)
  · replace k := k.1 c3
    refine w_tsw (pc' := 67) dX11_of_7 (by rw [c3]; rfl) ?_
    refine w_aload_n dX11_of_67 rfl ?_
    obtain ⟨g4, k⟩ := k
    refine w_getR dX11_of_68 f_11_198 t_8_1 g4 ?_
    obtain ⟨g5, k⟩ := k
    refine w_getI dX11_of_71 f_11_268 t_7_1 g5 ?_
    exact w_ireturn dX11_of_74 rfl k
  replace k := k.2
  by_cases c4 : v2 = (4 : Int32)
  · replace k := k.1 c4
    refine w_tsw (pc' := 75) dX11_of_7 (by rw [c4]; rfl) ?_
    refine w_aload_n dX11_of_75 rfl ?_
    obtain ⟨g6, k⟩ := k
    refine w_getI dX11_of_76 f_11_237 t_8_10 g6 ?_
    exact w_ireturn dX11_of_79 rfl k
  replace k := k.2
  by_cases c5 : v2 = (5 : Int32)
  · replace k := k.1 c5
    refine w_tsw (pc' := 80) dX11_of_7 (by rw [c5]; rfl) ?_
    refine w_aload_n dX11_of_80 rfl ?_
    obtain ⟨g7, k⟩ := k
    refine w_getR dX11_of_81 f_11_198 t_8_1 g7 ?_
    refine w_aload_n dX11_of_84 rfl ?_
    refine w_getI dX11_of_85 f_11_237 t_8_10 g7 ?_
    obtain ⟨g8, k⟩ := k
    obtain ⟨g9, k⟩ := k
    exact w_virt (as1 := [.int (hI h 810 s0), .ref (hR h 801 s0)]) (as2 := [.ref (hR h 801 s0), .int (hI h 810 s0)]) (rest := []) (lo2 := [some (.ref (hR h 801 s0)), some (.int (hI h 810 s0)), none, none]) dX11_of_88 c_11_240 rfl rfl rfl (Nat.le_of_ble_eq_true rfl) (Nat.le_of_ble_eq_true rfl) rfl (Nat.le_of_ble_eq_true rfl) rfl rfl g8 g9 k
  replace k := k.2
  by_cases c6 : v2 = (6 : Int32)
  · replace k := k.1 c6
    refine w_tsw (pc' := 92) dX11_of_7 (by rw [c6]; rfl) ?_
    refine w_aload_n dX11_of_92 rfl ?_
    obtain ⟨g10, k⟩ := k
    obtain ⟨g11, k⟩ := k
    exact w_virt (as1 := [.ref s0]) (as2 := [.ref s0]) (rest := []) (lo2 := [some (.ref s0)]) dX11_of_93 c_11_166 rfl rfl rfl (Nat.le_of_ble_eq_true rfl) (Nat.le_of_ble_eq_true rfl) rfl (Nat.le_of_ble_eq_true rfl) rfl rfl g10 g11 k
  replace k := k.2
  by_cases c7 : v2 = (7 : Int32)
  · replace k := k.1 c7
    refine w_tsw (pc' := 108) dX11_of_7 (by rw [c7]; rfl) ?_
    refine w_aload_n dX11_of_108 rfl ?_
    obtain ⟨g12, k⟩ := k
    refine w_getZ dX11_of_109 f_11_69 t_8_4 g12 ?_
    refine w_if_eq (pc' := 119) dX11_of_112 rfl rfl ⟨fun c => ?_, fun c => ?_⟩
    · replace k := k.1 c
      refine w_iconst dX11_of_119 i1_0 ?_
      exact w_ireturn dX11_of_120 rfl k
    · replace k := k.2 c
      refine w_iconst dX11_of_115 i1_1 ?_
      refine w_goto (pc' := 120) dX11_of_116 rfl rfl ?_
      exact w_ireturn dX11_of_120 rfl k
  replace k := k.2
  have e0 := ts_ne c0 (k := 0) rfl
  have e1 := ts_ne c1 (k := 1) rfl
  have e2 := ts_ne c2 (k := 2) rfl
  have e3 := ts_ne c3 (k := 3) rfl
  have e4 := ts_ne c4 (k := 4) rfl
  have e5 := ts_ne c5 (k := 5) rfl
  have e6 := ts_ne c6 (k := 6) rfl
  have e7 := ts_ne c7 (k := 7) rfl
  replace k := k ⟨c0, c1, c2, c3, c4, c5, c6, c7⟩
  refine w_tsw (pc' := 121) dX11_of_7 (ts_def (x := v2) (by omega) rfl rfl) ?_
  exact w_thr dX11_of_121 nx_11_51 tw_X11_of_121 (Nat.le_of_ble_eq_true rfl) rfl rfl k
theorem bX11_of_91 {d : Nat} {h : HP} {Q : Out → HP → Prop} {v0 : Nat} {v1 : Int32} {v2 : Int32} {v3 : Nat} {s0 : Int32} (k : Q (.inl (some (.int s0))) h) : WP d mX11_of 91 [some (.ref v0), some (.int v1), some (.int v2), some (.ref v3)] [.int s0] h Q := by
  exact w_ireturn dX11_of_91 rfl k
theorem bX11_of_96 {d : Nat} {h : HP} {Q : Out → HP → Prop} {v0 : Nat} {v1 : Int32} {v2 : Int32} {v3 : Nat} {s0 : Int32} (k : ((s0 = 0) → Q (.inl (some (.int (-1 : Int32)))) h) ∧ ((¬ (s0 = 0)) → (hK h v3 = 8) ∧ (Q (.inl (some (.int (hI h 812 v3)))) h))) : WP d mX11_of 96 [some (.ref v0), some (.int v1), some (.int v2), some (.ref v3)] [.int s0] h Q := by
  refine w_if_eq (pc' := 106) dX11_of_96 rfl rfl ⟨fun c => ?_, fun c => ?_⟩
  · replace k := k.1 c
    refine w_iconst dX11_of_106 i1_m1 ?_
    exact w_ireturn dX11_of_107 rfl k
  · replace k := k.2 c
    refine w_aload_n dX11_of_99 rfl ?_
    obtain ⟨g1, k⟩ := k
    refine w_getI dX11_of_100 f_11_269 t_8_12 g1 ?_
    refine w_goto (pc' := 107) dX11_of_103 rfl rfl ?_
    exact w_ireturn dX11_of_107 rfl k
theorem bX11_entry_0 {d : Nat} {h : HP} {Q : Out → HP → Prop} {v0 : Nat} {v1 : Int32} {v2 : Int32} {v3 : Int32} {u4 : Option Value} (k : (1 < v0) ∧ ((hK h v0 = 11) ∧ (WP d mX11_needMachine 0 [some (.ref v0), some (.int v1)] [] h (KK d mX11_entry mX11_needMachine 2 [some (.ref v0), some (.int v1), some (.int v2), some (.int v3), u4] [] Q)))) : WP (d + 1) mX11_entry 0 [some (.ref v0), some (.int v1), some (.int v2), some (.int v3), u4] [] h Q := by
  refine w_aload_n dX11_entry_0 rfl ?_
  refine w_iload_n dX11_entry_1 rfl ?_
  obtain ⟨g1, k⟩ := k
  obtain ⟨g2, k⟩ := k
  exact w_virt (as1 := [.int v1, .ref v0]) (as2 := [.ref v0, .int v1]) (rest := []) (lo2 := [some (.ref v0), some (.int v1)]) dX11_entry_2 c_11_62 rfl rfl rfl (Nat.le_of_ble_eq_true rfl) (Nat.le_of_ble_eq_true rfl) rfl (Nat.le_of_ble_eq_true rfl) rfl rfl g1 g2 k
theorem bX11_entry_5 {d : Nat} {h : HP} {Q : Out → HP → Prop} {v0 : Nat} {v1 : Int32} {v2 : Int32} {v3 : Int32} {u4 : Option Value} {s0 : Nat} (k : (hK h s0 = 8) ∧ ((1 < (hR h 801 s0)) ∧ ((hK h (hR h 801 s0) = 7) ∧ (WP d mX7_at 0 [some (.ref (hR h 801 s0)), some (.int v2)] [] h (KK d mX11_entry mX7_at 9 [some (.ref v0), some (.int v1), some (.int v2), some (.int v3), u4] [] Q))))) : WP (d + 1) mX11_entry 5 [some (.ref v0), some (.int v1), some (.int v2), some (.int v3), u4] [.ref s0] h Q := by
  obtain ⟨g1, k⟩ := k
  refine w_getR dX11_entry_5 f_11_198 t_8_1 g1 ?_
  refine w_iload_n dX11_entry_8 rfl ?_
  obtain ⟨g2, k⟩ := k
  obtain ⟨g3, k⟩ := k
  exact w_virt (as1 := [.int v2, .ref (hR h 801 s0)]) (as2 := [.ref (hR h 801 s0), .int v2]) (rest := []) (lo2 := [some (.ref (hR h 801 s0)), some (.int v2)]) dX11_entry_9 c_11_272 rfl rfl rfl (Nat.le_of_ble_eq_true rfl) (Nat.le_of_ble_eq_true rfl) rfl (Nat.le_of_ble_eq_true rfl) rfl rfl g2 g3 k
theorem bX11_entry_12 {d : Nat} {h : HP} {Q : Out → HP → Prop} {v0 : Nat} {v1 : Int32} {v2 : Int32} {v3 : Int32} {u4 : Option Value} {s0 : Nat} (k : ((¬ s0 = 0) → ((v3 = (0 : Int32)) → (hK h s0 = 3) ∧ (Q (.inl (some (.int (hI h 300 s0)))) h)) ∧ ((v3 = (1 : Int32)) → (hK h s0 = 3) ∧ (Q (.inl (some (.int (hI h 301 s0)))) h)) ∧ ((v3 = (2 : Int32)) → (hK h s0 = 3) ∧ (Q (.inl (some (.int (hI h 302 s0)))) h)) ∧ ((v3 = (3 : Int32)) → (hK h s0 = 3) ∧ (Q (.inl (some (.int (hI h 303 s0)))) h)) ∧ ((¬ v3 = (0 : Int32) ∧ ¬ v3 = (1 : Int32) ∧ ¬ v3 = (2 : Int32) ∧ ¬ v3 = (3 : Int32)) → Q (.inr 1) (thr h))) ∧ ((¬ (¬ s0 = 0)) → Q (.inr 3) (thr h))) : WP d mX11_entry 12 [some (.ref v0), some (.int v1), some (.int v2), some (.int v3), u4] [.ref s0] h Q := by
  refine w_astore (lo' := [some (.ref v0), some (.int v1), some (.int v2), some (.int v3), some (.ref s0)]) dX11_entry_12 (ltQ rfl) rfl ?_
  refine w_aload dX11_entry_14 rfl ?_
  refine w_ifnonnull (pc' := 30) dX11_entry_16 rfl rfl ⟨fun c => ?_, fun c => ?_⟩
  · replace k := k.1 c
    refine w_iload_n dX11_entry_30 rfl ?_
    by_cases c0 : v3 = (0 : Int32)
    · replace k := k.1 c0
      refine w_tsw (pc' := 60) dX11_entry_31 (by rw [c0]; rfl) ?_
      refine w_aload dX11_entry_60 rfl ?_
      obtain ⟨g1, k⟩ := k
      refine w_getI dX11_entry_62 f_11_278 t_3_0 g1 ?_
      exact w_ireturn dX11_entry_65 rfl k
    replace k := k.2
    by_cases c1 : v3 = (1 : Int32)
    · replace k := k.1 c1
      refine w_tsw (pc' := 66) dX11_entry_31 (by rw [c1]; rfl) ?_
      refine w_aload dX11_entry_66 rfl ?_
      obtain ⟨g2, k⟩ := k
      refine w_getI dX11_entry_68 f_11_279 t_3_1 g2 ?_
      exact w_ireturn dX11_entry_71 rfl k
    replace k := k.2
    by_cases c2 : v3 = (2 : Int32)
    · replace k := k.1 c2
      refine w_tsw (pc' := 72) dX11_entry_31 (by rw [c2]; rfl) ?_
      refine w_aload dX11_entry_72 rfl ?_
      obtain ⟨g3, k⟩ := k
      refine w_getI dX11_entry_74 f_11_282 t_3_2 g3 ?_
      exact w_ireturn dX11_entry_77 rfl k
    replace k := k.2
    by_cases c3 : v3 = (3 : Int32)
    · replace k := k.1 c3
      refine w_tsw (pc' := 78) dX11_entry_31 (by rw [c3]; rfl) ?_
      refine w_aload dX11_entry_78 rfl ?_
      obtain ⟨g4, k⟩ := k
      refine w_getI dX11_entry_80 f_11_285 t_3_3 g4 ?_
      exact w_ireturn dX11_entry_83 rfl k
    replace k := k.2
    have e0 := ts_ne c0 (k := 0) rfl
    have e1 := ts_ne c1 (k := 1) rfl
    have e2 := ts_ne c2 (k := 2) rfl
    have e3 := ts_ne c3 (k := 3) rfl
    replace k := k ⟨c0, c1, c2, c3⟩
    refine w_tsw (pc' := 84) dX11_entry_31 (ts_def (x := v3) (by omega) rfl rfl) ?_
    exact w_thr dX11_entry_84 nx_11_51 tw_X11_entry_84 (Nat.le_of_ble_eq_true rfl) rfl rfl k
  · replace k := k.2 c
    exact w_thr dX11_entry_19 nx_11_182 tw_X11_entry_19 (Nat.le_of_ble_eq_true rfl) rfl rfl k
theorem bX11_clock_0 {d : Nat} {h : HP} {Q : Out → HP → Prop} {v0 : Nat} {v1 : Int32} (k : (1 < v0) ∧ ((hK h v0 = 11) ∧ (WP d mX11_needMachine 0 [some (.ref v0), some (.int v1)] [] h (KK d mX11_clock mX11_needMachine 2 [some (.ref v0), some (.int v1)] [] Q)))) : WP (d + 1) mX11_clock 0 [some (.ref v0), some (.int v1)] [] h Q := by
  refine w_aload_n dX11_clock_0 rfl ?_
  refine w_iload_n dX11_clock_1 rfl ?_
  obtain ⟨g1, k⟩ := k
  obtain ⟨g2, k⟩ := k
  exact w_virt (as1 := [.int v1, .ref v0]) (as2 := [.ref v0, .int v1]) (rest := []) (lo2 := [some (.ref v0), some (.int v1)]) dX11_clock_2 c_11_62 rfl rfl rfl (Nat.le_of_ble_eq_true rfl) (Nat.le_of_ble_eq_true rfl) rfl (Nat.le_of_ble_eq_true rfl) rfl rfl g1 g2 k
theorem bX11_clock_5 {d : Nat} {h : HP} {Q : Out → HP → Prop} {v0 : Nat} {v1 : Int32} {s0 : Nat} (k : (hK h s0 = 8) ∧ (Q (.inl (some (.float (hF h 805 s0)))) h)) : WP d mX11_clock 5 [some (.ref v0), some (.int v1)] [.ref s0] h Q := by
  obtain ⟨g1, k⟩ := k
  refine w_getF dX11_clock_5 f_11_98 t_8_5 g1 ?_
  exact w_freturn dX11_clock_8 rfl k
theorem bX11_lease_0 {d : Nat} {h : HP} {Q : Out → HP → Prop} {v0 : Nat} {v1 : Int32} {u2 : Option Value} (k : (1 < v0) ∧ ((hK h v0 = 11) ∧ (WP d mX11_needMachine 0 [some (.ref v0), some (.int v1)] [] h (KK d mX11_lease mX11_needMachine 2 [some (.ref v0), some (.int v1), u2] [] Q)))) : WP (d + 1) mX11_lease 0 [some (.ref v0), some (.int v1), u2] [] h Q := by
  refine w_aload_n dX11_lease_0 rfl ?_
  refine w_iload_n dX11_lease_1 rfl ?_
  obtain ⟨g1, k⟩ := k
  obtain ⟨g2, k⟩ := k
  exact w_virt (as1 := [.int v1, .ref v0]) (as2 := [.ref v0, .int v1]) (rest := []) (lo2 := [some (.ref v0), some (.int v1)]) dX11_lease_2 c_11_62 rfl rfl rfl (Nat.le_of_ble_eq_true rfl) (Nat.le_of_ble_eq_true rfl) rfl (Nat.le_of_ble_eq_true rfl) rfl rfl g1 g2 k
theorem bX11_lease_5 {d : Nat} {h : HP} {Q : Out → HP → Prop} {v0 : Nat} {v1 : Int32} {u2 : Option Value} {s0 : Nat} (k : (hK h s0 = 8) ∧ ((hK h (hR h 802 s0) = 5) ∧ ((((hI h 504 (hR h 802 s0)) = 0) → Q (.inl (some (.float (3212836864 : UInt32)))) h) ∧ ((¬ ((hI h 504 (hR h 802 s0)) = 0)) → Q (.inl (some (.float (hF h 505 (hR h 802 s0))))) h)))) : WP d mX11_lease 5 [some (.ref v0), some (.int v1), u2] [.ref s0] h Q := by
  obtain ⟨g1, k⟩ := k
  refine w_getR dX11_lease_5 f_11_286 t_8_2 g1 ?_
  refine w_astore_n (lo' := [some (.ref v0), some (.int v1), some (.ref (hR h 802 s0))]) dX11_lease_8 (ltQ rfl) rfl ?_
  refine w_aload_n dX11_lease_9 rfl ?_
  obtain ⟨g2, k⟩ := k
  refine w_getZ dX11_lease_10 f_11_290 t_5_4 g2 ?_
  refine w_if_eq (pc' := 23) dX11_lease_13 rfl rfl ⟨fun c => ?_, fun c => ?_⟩
  · replace k := k.1 c
    refine w_ldc_w dX11_lease_23 l_11_298 ?_
    exact w_freturn dX11_lease_26 rfl k
  · replace k := k.2 c
    refine w_aload_n dX11_lease_16 rfl ?_
    refine w_getF dX11_lease_17 f_11_295 t_5_5 g2 ?_
    refine w_goto (pc' := 26) dX11_lease_20 rfl rfl ?_
    exact w_freturn dX11_lease_26 rfl k
theorem bX11_leases_0 {d : Nat} {h : HP} {Q : Out → HP → Prop} {v0 : Nat} {u1 : Option Value} {u2 : Option Value} (k : WP d mX11_leases 4 [some (.ref v0), some (.int (0 : Int32)), some (.int (0 : Int32))] [] h Q) : WP d mX11_leases 0 [some (.ref v0), u1, u2] [] h Q := by
  refine w_iconst dX11_leases_0 i1_0 ?_
  refine w_istore_n (lo' := [some (.ref v0), some (.int (0 : Int32)), u2]) dX11_leases_1 (ltQ rfl) rfl ?_
  refine w_iconst dX11_leases_2 i1_0 ?_
  refine w_istore_n (lo' := [some (.ref v0), some (.int (0 : Int32)), some (.int (0 : Int32))]) dX11_leases_3 (ltQ rfl) rfl ?_
  exact k
theorem bX11_leases_4 {d : Nat} {h : HP} {Q : Out → HP → Prop} {v0 : Nat} {v1 : Int32} {v2 : Int32} (k : (hK h v0 = 11) ∧ ((hK h (hR h 1101 v0) = 10) ∧ ((((hI h 1000 (hR h 1101 v0)) ≤ v2) → Q (.inl (some (.int v1))) h) ∧ ((¬ ((hI h 1000 (hR h 1101 v0)) ≤ v2)) → (25 ≤ hK h (hR h 1100 v0) ∧ hK h (hR h 1100 v0) ≤ 29) ∧ ((inA h (hR h 1100 v0) v2 = true) ∧ ((hK h (hAR h (hR h 1100 v0) (v2).toNatClampNeg) = 8) ∧ ((((hI h 804 (hAR h (hR h 1100 v0) (v2).toNatClampNeg)) = 0) → WP (d + 1) mX11_leases 4 [some (.ref v0), some (.int v1), some (.int (v2 + (1 : Int32)))] [] h Q) ∧ ((¬ ((hI h 804 (hAR h (hR h 1100 v0) (v2).toNatClampNeg)) = 0)) → (1 < (hAR h (hR h 1100 v0) (v2).toNatClampNeg)) ∧ (WP d mX8_holdsLease 0 [some (.ref (hAR h (hR h 1100 v0) (v2).toNatClampNeg))] [] h (KK d mX11_leases mX8_holdsLease 33 [some (.ref v0), some (.int v1), some (.int v2)] [] Q)))))))))) : WP (d + 1) mX11_leases 4 [some (.ref v0), some (.int v1), some (.int v2)] [] h Q := by
  refine w_iload_n dX11_leases_4 rfl ?_
  refine w_aload_n dX11_leases_5 rfl ?_
  obtain ⟨g1, k⟩ := k
  refine w_getR dX11_leases_6 f_11_18 t_11_1 g1 ?_
  obtain ⟨g2, k⟩ := k
  refine w_getI dX11_leases_9 f_11_58 t_10_0 g2 ?_
  refine w_ic_ge (pc' := 48) dX11_leases_12 rfl rfl ⟨fun c => ?_, fun c => ?_⟩
  · replace k := k.1 c
    refine w_iload_n dX11_leases_48 rfl ?_
    exact w_ireturn dX11_leases_49 rfl k
  · replace k := k.2 c
    refine w_aload_n dX11_leases_15 rfl ?_
    refine w_getR dX11_leases_16 f_11_11 t_11_0 g1 ?_
    refine w_iload_n dX11_leases_19 rfl ?_
    obtain ⟨g3, k⟩ := k
    obtain ⟨g4, k⟩ := k
    refine w_aaload dX11_leases_20 rfl g4 g3.1 g3.2 ?_
    obtain ⟨g5, k⟩ := k
    refine w_getZ dX11_leases_21 f_11_69 t_8_4 g5 ?_
    refine w_if_eq (pc' := 42) dX11_leases_24 rfl rfl ⟨fun c => ?_, fun c => ?_⟩
    · replace k := k.1 c
      refine w_iinc (lo' := [some (.ref v0), some (.int v1), some (.int (v2 + (1 : Int32)))]) dX11_leases_42 rfl i1_1 rfl ?_
      refine w_goto (pc' := 4) dX11_leases_45 rfl rfl ?_
      exact k
    · replace k := k.2 c
      refine w_aload_n dX11_leases_27 rfl ?_
      refine w_getR dX11_leases_28 f_11_11 t_11_0 g1 ?_
      refine w_iload_n dX11_leases_31 rfl ?_
      refine w_aaload dX11_leases_32 rfl g4 g3.1 g3.2 ?_
      obtain ⟨g6, k⟩ := k
      exact w_virt (as1 := [.ref (hAR h (hR h 1100 v0) (v2).toNatClampNeg)]) (as2 := [.ref (hAR h (hR h 1100 v0) (v2).toNatClampNeg)]) (rest := []) (lo2 := [some (.ref (hAR h (hR h 1100 v0) (v2).toNatClampNeg))]) dX11_leases_33 c_11_229 rfl rfl rfl (Nat.le_of_ble_eq_true rfl) (Nat.le_of_ble_eq_true rfl) rfl (Nat.le_of_ble_eq_true rfl) rfl rfl g6 g5 k
theorem bX11_leases_36 {d : Nat} {h : HP} {Q : Out → HP → Prop} {v0 : Nat} {v1 : Int32} {v2 : Int32} {s0 : Int32} (k : ((s0 = 0) → WP d mX11_leases 4 [some (.ref v0), some (.int v1), some (.int (v2 + (1 : Int32)))] [] h Q) ∧ ((¬ (s0 = 0)) → WP d mX11_leases 4 [some (.ref v0), some (.int (v1 + (1 : Int32))), some (.int (v2 + (1 : Int32)))] [] h Q)) : WP d mX11_leases 36 [some (.ref v0), some (.int v1), some (.int v2)] [.int s0] h Q := by
  refine w_if_eq (pc' := 42) dX11_leases_36 rfl rfl ⟨fun c => ?_, fun c => ?_⟩
  · replace k := k.1 c
    refine w_iinc (lo' := [some (.ref v0), some (.int v1), some (.int (v2 + (1 : Int32)))]) dX11_leases_42 rfl i1_1 rfl ?_
    refine w_goto (pc' := 4) dX11_leases_45 rfl rfl ?_
    exact k
  · replace k := k.2 c
    refine w_iinc (lo' := [some (.ref v0), some (.int (v1 + (1 : Int32))), some (.int v2)]) dX11_leases_39 rfl i1_1 rfl ?_
    refine w_iinc (lo' := [some (.ref v0), some (.int (v1 + (1 : Int32))), some (.int (v2 + (1 : Int32)))]) dX11_leases_42 rfl i1_1 rfl ?_
    refine w_goto (pc' := 4) dX11_leases_45 rfl rfl ?_
    exact k
theorem bX11_decision_0 {d : Nat} {h : HP} {Q : Out → HP → Prop} {v0 : Nat} {v1 : Int32} {v2 : Int32} {v3 : Int32} {u4 : Option Value} (k : (1 < v0) ∧ ((hK h v0 = 11) ∧ (WP d mX11_needMachine 0 [some (.ref v0), some (.int v1)] [] h (KK d mX11_decision mX11_needMachine 3 [some (.ref v0), some (.int v1), some (.int v2), some (.int v3), u4] [.ref v0] Q)))) : WP (d + 1) mX11_decision 0 [some (.ref v0), some (.int v1), some (.int v2), some (.int v3), u4] [] h Q := by
  refine w_aload_n dX11_decision_0 rfl ?_
  refine w_aload_n dX11_decision_1 rfl ?_
  refine w_iload_n dX11_decision_2 rfl ?_
  obtain ⟨g1, k⟩ := k
  obtain ⟨g2, k⟩ := k
  exact w_virt (as1 := [.int v1, .ref v0]) (as2 := [.ref v0, .int v1]) (rest := [.ref v0]) (lo2 := [some (.ref v0), some (.int v1)]) dX11_decision_3 c_11_62 rfl rfl rfl (Nat.le_of_ble_eq_true rfl) (Nat.le_of_ble_eq_true rfl) rfl (Nat.le_of_ble_eq_true rfl) rfl rfl g1 g2 k
theorem bX11_decision_6 {d : Nat} {h : HP} {Q : Out → HP → Prop} {v0 : Nat} {v1 : Int32} {v2 : Int32} {v3 : Int32} {u4 : Option Value} {s0 : Nat} {s1 : Nat} (k : (1 < s1) ∧ ((hK h s1 = 11) ∧ (WP d mX11_needChoice 0 [some (.ref s1), some (.ref s0), some (.int v2)] [] h (KK d mX11_decision mX11_needChoice 7 [some (.ref v0), some (.int v1), some (.int v2), some (.int v3), u4] [] Q)))) : WP (d + 1) mX11_decision 6 [some (.ref v0), some (.int v1), some (.int v2), some (.int v3), u4] [.ref s0, .ref s1] h Q := by
  refine w_iload_n dX11_decision_6 rfl ?_
  obtain ⟨g1, k⟩ := k
  obtain ⟨g2, k⟩ := k
  exact w_virt (as1 := [.int v2, .ref s0, .ref s1]) (as2 := [.ref s1, .ref s0, .int v2]) (rest := []) (lo2 := [some (.ref s1), some (.ref s0), some (.int v2)]) dX11_decision_7 c_11_247 rfl rfl rfl (Nat.le_of_ble_eq_true rfl) (Nat.le_of_ble_eq_true rfl) rfl (Nat.le_of_ble_eq_true rfl) rfl rfl g1 g2 k
theorem bX11_decision_10 {d : Nat} {h : HP} {Q : Out → HP → Prop} {v0 : Nat} {v1 : Int32} {v2 : Int32} {v3 : Int32} {u4 : Option Value} {s0 : Nat} (k : ((v3 = (0 : Int32)) → (hK h s0 = 2) ∧ (Q (.inl (some (.int (hI h 200 s0)))) h)) ∧ ((v3 = (1 : Int32)) → (hK h s0 = 2) ∧ (Q (.inl (some (.int (hI h 201 s0)))) h)) ∧ ((v3 = (2 : Int32)) → (hK h s0 = 2) ∧ (Q (.inl (some (.int (hI h 202 s0)))) h)) ∧ ((v3 = (3 : Int32)) → (hK h s0 = 2) ∧ (Q (.inl (some (.int (hI h 203 s0)))) h)) ∧ ((¬ v3 = (0 : Int32) ∧ ¬ v3 = (1 : Int32) ∧ ¬ v3 = (2 : Int32) ∧ ¬ v3 = (3 : Int32)) → Q (.inr 1) (thr h))) : WP d mX11_decision 10 [some (.ref v0), some (.int v1), some (.int v2), some (.int v3), u4] [.ref s0] h Q := by
  refine w_astore (lo' := [some (.ref v0), some (.int v1), some (.int v2), some (.int v3), some (.ref s0)]) dX11_decision_10 (ltQ rfl) rfl ?_
  refine w_iload_n dX11_decision_12 rfl ?_
  by_cases c0 : v3 = (0 : Int32)
  · replace k := k.1 c0
    refine w_tsw (pc' := 44) dX11_decision_13 (by rw [c0]; rfl) ?_
    refine w_aload dX11_decision_44 rfl ?_
    obtain ⟨g1, k⟩ := k
    refine w_getI dX11_decision_46 f_11_299 t_2_0 g1 ?_
    exact w_ireturn dX11_decision_49 rfl k
  replace k := k.2
  by_cases c1 : v3 = (1 : Int32)
  · replace k := k.1 c1
    refine w_tsw (pc' := 50) dX11_decision_13 (by rw [c1]; rfl) ?_
    refine w_aload dX11_decision_50 rfl ?_
    obtain ⟨g2, k⟩ := k
    refine w_getI dX11_decision_52 f_11_304 t_2_1 g2 ?_
    exact w_ireturn dX11_decision_55 rfl k
  replace k := k.2
  by_cases c2 : v3 = (2 : Int32)
  · replace k := k.1 c2
    refine w_tsw (pc' := 56) dX11_decision_13 (by rw [c2]; rfl) ?_
    refine w_aload dX11_decision_56 rfl ?_
    obtain ⟨g3, k⟩ := k
    refine w_getI dX11_decision_58 f_11_307 t_2_2 g3 ?_
    exact w_ireturn dX11_decision_61 rfl k
  replace k := k.2
  by_cases c3 : v3 = (3 : Int32)
  · replace k := k.1 c3
    refine w_tsw (pc' := 62) dX11_decision_13 (by rw [c3]; rfl) ?_
    refine w_aload dX11_decision_62 rfl ?_
    obtain ⟨g4, k⟩ := k
    refine w_getI dX11_decision_64 f_11_310 t_2_3 g4 ?_
    exact w_ireturn dX11_decision_67 rfl k
  replace k := k.2
  have e0 := ts_ne c0 (k := 0) rfl
  have e1 := ts_ne c1 (k := 1) rfl
  have e2 := ts_ne c2 (k := 2) rfl
  have e3 := ts_ne c3 (k := 3) rfl
  replace k := k ⟨c0, c1, c2, c3⟩
  refine w_tsw (pc' := 68) dX11_decision_13 (ts_def (x := v3) (by omega) rfl rfl) ?_
  exact w_thr dX11_decision_68 nx_11_51 tw_X11_decision_68 (Nat.le_of_ble_eq_true rfl) rfl rfl k
theorem bX11_acts_0 {d : Nat} {h : HP} {Q : Out → HP → Prop} {v0 : Nat} (k : (hK h v0 = 11) ∧ ((hK h (hR h 1104 v0) = 4) ∧ (Q (.inl (some (.int (hI h 402 (hR h 1104 v0))))) h))) : WP d mX11_acts 0 [some (.ref v0)] [] h Q := by
  refine w_aload_n dX11_acts_0 rfl ?_
  obtain ⟨g1, k⟩ := k
  refine w_getR dX11_acts_1 f_11_41 t_11_4 g1 ?_
  obtain ⟨g2, k⟩ := k
  refine w_getI dX11_acts_4 f_11_313 t_4_2 g2 ?_
  exact w_ireturn dX11_acts_7 rfl k
theorem bX11_act_0 {d : Nat} {h : HP} {Q : Out → HP → Prop} {v0 : Nat} {v1 : Int32} {v2 : Int32} {u3 : Option Value} (k : (hK h v0 = 11) ∧ ((1 < (hR h 1104 v0)) ∧ ((hK h (hR h 1104 v0) = 4) ∧ (WP d mX4_at 0 [some (.ref (hR h 1104 v0)), some (.int v1)] [] h (KK d mX11_act mX4_at 5 [some (.ref v0), some (.int v1), some (.int v2), u3] [] Q))))) : WP (d + 1) mX11_act 0 [some (.ref v0), some (.int v1), some (.int v2), u3] [] h Q := by
  refine w_aload_n dX11_act_0 rfl ?_
  obtain ⟨g1, k⟩ := k
  refine w_getR dX11_act_1 f_11_41 t_11_4 g1 ?_
  refine w_iload_n dX11_act_4 rfl ?_
  obtain ⟨g2, k⟩ := k
  obtain ⟨g3, k⟩ := k
  exact w_virt (as1 := [.int v1, .ref (hR h 1104 v0)]) (as2 := [.ref (hR h 1104 v0), .int v1]) (rest := []) (lo2 := [some (.ref (hR h 1104 v0)), some (.int v1)]) dX11_act_5 c_11_314 rfl rfl rfl (Nat.le_of_ble_eq_true rfl) (Nat.le_of_ble_eq_true rfl) rfl (Nat.le_of_ble_eq_true rfl) rfl rfl g2 g3 k
theorem bX11_act_8 {d : Nat} {h : HP} {Q : Out → HP → Prop} {v0 : Nat} {v1 : Int32} {v2 : Int32} {u3 : Option Value} {s0 : Nat} (k : ((¬ s0 = 0) → ((v2 = (0 : Int32)) → (hK h s0 = 0) ∧ ((((hI h 0 s0) = 0) → Q (.inl (some (.int (0 : Int32)))) h) ∧ ((¬ ((hI h 0 s0) = 0)) → Q (.inl (some (.int (1 : Int32)))) h))) ∧ ((v2 = (1 : Int32)) → (hK h s0 = 0) ∧ (Q (.inl (some (.int (hI h 3 s0)))) h)) ∧ ((v2 = (2 : Int32)) → (hK h s0 = 0) ∧ (Q (.inl (some (.int (hI h 4 s0)))) h)) ∧ ((v2 = (3 : Int32)) → (hK h s0 = 0) ∧ (Q (.inl (some (.int (hI h 5 s0)))) h)) ∧ ((¬ v2 = (0 : Int32) ∧ ¬ v2 = (1 : Int32) ∧ ¬ v2 = (2 : Int32) ∧ ¬ v2 = (3 : Int32)) → Q (.inr 1) (thr h))) ∧ ((¬ (¬ s0 = 0)) → Q (.inr 3) (thr h))) : WP d mX11_act 8 [some (.ref v0), some (.int v1), some (.int v2), u3] [.ref s0] h Q := by
  refine w_astore_n (lo' := [some (.ref v0), some (.int v1), some (.int v2), some (.ref s0)]) dX11_act_8 (ltQ rfl) rfl ?_
  refine w_aload_n dX11_act_9 rfl ?_
  refine w_ifnonnull (pc' := 24) dX11_act_10 rfl rfl ⟨fun c => ?_, fun c => ?_⟩
  · replace k := k.1 c
    refine w_iload_n dX11_act_24 rfl ?_
    by_cases c0 : v2 = (0 : Int32)
    · replace k := k.1 c0
      refine w_tsw (pc' := 56) dX11_act_25 (by rw [c0]; rfl) ?_
      refine w_aload_n dX11_act_56 rfl ?_
      obtain ⟨g1, k⟩ := k
      refine w_getZ dX11_act_57 f_11_319 t_0_0 g1 ?_
      refine w_if_eq (pc' := 67) dX11_act_60 rfl rfl ⟨fun c => ?_, fun c => ?_⟩
      · replace k := k.1 c
        refine w_iconst dX11_act_67 i1_0 ?_
        exact w_ireturn dX11_act_68 rfl k
      · replace k := k.2 c
        refine w_iconst dX11_act_63 i1_1 ?_
        refine w_goto (pc' := 68) dX11_act_64 rfl rfl ?_
        exact w_ireturn dX11_act_68 rfl k
    replace k := k.2
    by_cases c1 : v2 = (1 : Int32)
    · replace k := k.1 c1
      refine w_tsw (pc' := 69) dX11_act_25 (by rw [c1]; rfl) ?_
      refine w_aload_n dX11_act_69 rfl ?_
      obtain ⟨g2, k⟩ := k
      refine w_getI dX11_act_70 f_11_191 t_0_3 g2 ?_
      exact w_ireturn dX11_act_73 rfl k
    replace k := k.2
    by_cases c2 : v2 = (2 : Int32)
    · replace k := k.1 c2
      refine w_tsw (pc' := 74) dX11_act_25 (by rw [c2]; rfl) ?_
      refine w_aload_n dX11_act_74 rfl ?_
      obtain ⟨g3, k⟩ := k
      refine w_getI dX11_act_75 f_11_322 t_0_4 g3 ?_
      exact w_ireturn dX11_act_78 rfl k
    replace k := k.2
    by_cases c3 : v2 = (3 : Int32)
    · replace k := k.1 c3
      refine w_tsw (pc' := 79) dX11_act_25 (by rw [c3]; rfl) ?_
      refine w_aload_n dX11_act_79 rfl ?_
      obtain ⟨g4, k⟩ := k
      refine w_getI dX11_act_80 f_11_325 t_0_5 g4 ?_
      exact w_ireturn dX11_act_83 rfl k
    replace k := k.2
    have e0 := ts_ne c0 (k := 0) rfl
    have e1 := ts_ne c1 (k := 1) rfl
    have e2 := ts_ne c2 (k := 2) rfl
    have e3 := ts_ne c3 (k := 3) rfl
    replace k := k ⟨c0, c1, c2, c3⟩
    refine w_tsw (pc' := 84) dX11_act_25 (ts_def (x := v2) (by omega) rfl rfl) ?_
    exact w_thr dX11_act_84 nx_11_51 tw_X11_act_84 (Nat.le_of_ble_eq_true rfl) rfl rfl k
  · replace k := k.2 c
    exact w_thr dX11_act_13 nx_11_182 tw_X11_act_13 (Nat.le_of_ble_eq_true rfl) rfl rfl k
theorem bX11_isInOrder_0 {d : Nat} {h : HP} {Q : Out → HP → Prop} {v0 : Nat} (k : (hK h v0 = 11) ∧ ((1 < (hR h 1104 v0)) ∧ ((hK h (hR h 1104 v0) = 4) ∧ (WP d mX4_hasOneOrder 0 [some (.ref (hR h 1104 v0))] [] h (KK d mX11_isInOrder mX4_hasOneOrder 4 [some (.ref v0)] [] Q))))) : WP (d + 1) mX11_isInOrder 0 [some (.ref v0)] [] h Q := by
  refine w_aload_n dX11_isInOrder_0 rfl ?_
  obtain ⟨g1, k⟩ := k
  refine w_getR dX11_isInOrder_1 f_11_41 t_11_4 g1 ?_
  obtain ⟨g2, k⟩ := k
  obtain ⟨g3, k⟩ := k
  exact w_virt (as1 := [.ref (hR h 1104 v0)]) (as2 := [.ref (hR h 1104 v0)]) (rest := []) (lo2 := [some (.ref (hR h 1104 v0))]) dX11_isInOrder_4 c_11_328 rfl rfl rfl (Nat.le_of_ble_eq_true rfl) (Nat.le_of_ble_eq_true rfl) rfl (Nat.le_of_ble_eq_true rfl) rfl rfl g2 g3 k
theorem bX11_isInOrder_7 {d : Nat} {h : HP} {Q : Out → HP → Prop} {v0 : Nat} {s0 : Int32} (k : (isZ s0 = true) ∧ (Q (.inl (some (.int s0))) h)) : WP d mX11_isInOrder 7 [some (.ref v0)] [.int s0] h Q := by
  obtain ⟨g1, k⟩ := k
  exact w_ireturn dX11_isInOrder_7 g1 k
theorem bX11_isAgreed_0 {d : Nat} {h : HP} {Q : Out → HP → Prop} {v0 : Nat} {u1 : Option Value} {u2 : Option Value} (k : WP d mX11_isAgreed 2 [some (.ref v0), some (.int (0 : Int32)), u2] [] h Q) : WP d mX11_isAgreed 0 [some (.ref v0), u1, u2] [] h Q := by
  refine w_iconst dX11_isAgreed_0 i1_0 ?_
  refine w_istore_n (lo' := [some (.ref v0), some (.int (0 : Int32)), u2]) dX11_isAgreed_1 (ltQ rfl) rfl ?_
  exact k
theorem bX11_isAgreed_2 {d : Nat} {h : HP} {Q : Out → HP → Prop} {v0 : Nat} {v1 : Int32} {u2 : Option Value} (k : (hK h v0 = 11) ∧ ((hK h (hR h 1101 v0) = 10) ∧ ((((hI h 1000 (hR h 1101 v0)) ≤ v1) → Q (.inl (some (.int (1 : Int32)))) h) ∧ ((¬ ((hI h 1000 (hR h 1101 v0)) ≤ v1)) → WP d mX11_isAgreed 15 [some (.ref v0), some (.int v1), some (.int (0 : Int32))] [] h Q)))) : WP d mX11_isAgreed 2 [some (.ref v0), some (.int v1), u2] [] h Q := by
  refine w_iload_n dX11_isAgreed_2 rfl ?_
  refine w_aload_n dX11_isAgreed_3 rfl ?_
  obtain ⟨g1, k⟩ := k
  refine w_getR dX11_isAgreed_4 f_11_18 t_11_1 g1 ?_
  obtain ⟨g2, k⟩ := k
  refine w_getI dX11_isAgreed_7 f_11_58 t_10_0 g2 ?_
  refine w_ic_ge (pc' := 52) dX11_isAgreed_10 rfl rfl ⟨fun c => ?_, fun c => ?_⟩
  · replace k := k.1 c
    refine w_iconst dX11_isAgreed_52 i1_1 ?_
    exact w_ireturn dX11_isAgreed_53 rfl k
  · replace k := k.2 c
    refine w_iconst dX11_isAgreed_13 i1_0 ?_
    refine w_istore_n (lo' := [some (.ref v0), some (.int v1), some (.int (0 : Int32))]) dX11_isAgreed_14 (ltQ rfl) rfl ?_
    exact k
theorem bX11_isAgreed_15 {d : Nat} {h : HP} {Q : Out → HP → Prop} {v0 : Nat} {v1 : Int32} {v2 : Int32} (k : ((v1 ≤ v2) → WP (d + 1) mX11_isAgreed 2 [some (.ref v0), some (.int (v1 + (1 : Int32))), some (.int v2)] [] h Q) ∧ ((¬ (v1 ≤ v2)) → (hK h v0 = 11) ∧ ((25 ≤ hK h (hR h 1100 v0) ∧ hK h (hR h 1100 v0) ≤ 29) ∧ ((inA h (hR h 1100 v0) v1 = true) ∧ ((inA h (hR h 1100 v0) v2 = true) ∧ ((1 < (hAR h (hR h 1100 v0) (v1).toNatClampNeg)) ∧ ((hK h (hAR h (hR h 1100 v0) (v1).toNatClampNeg) = 8) ∧ (WP d mX8_agreesWith 0 [some (.ref (hAR h (hR h 1100 v0) (v1).toNatClampNeg)), some (.ref (hAR h (hR h 1100 v0) (v2).toNatClampNeg)), none, none, none] [] h (KK d mX11_isAgreed mX8_agreesWith 32 [some (.ref v0), some (.int v1), some (.int v2)] [] Q))))))))) : WP (d + 1) mX11_isAgreed 15 [some (.ref v0), some (.int v1), some (.int v2)] [] h Q := by
  refine w_iload_n dX11_isAgreed_15 rfl ?_
  refine w_iload_n dX11_isAgreed_16 rfl ?_
  refine w_ic_ge (pc' := 46) dX11_isAgreed_17 rfl rfl ⟨fun c => ?_, fun c => ?_⟩
  · replace k := k.1 c
    refine w_iinc (lo' := [some (.ref v0), some (.int (v1 + (1 : Int32))), some (.int v2)]) dX11_isAgreed_46 rfl i1_1 rfl ?_
    refine w_goto (pc' := 2) dX11_isAgreed_49 rfl rfl ?_
    exact k
  · replace k := k.2 c
    refine w_aload_n dX11_isAgreed_20 rfl ?_
    obtain ⟨g1, k⟩ := k
    refine w_getR dX11_isAgreed_21 f_11_11 t_11_0 g1 ?_
    refine w_iload_n dX11_isAgreed_24 rfl ?_
    obtain ⟨g2, k⟩ := k
    obtain ⟨g3, k⟩ := k
    refine w_aaload dX11_isAgreed_25 rfl g3 g2.1 g2.2 ?_
    refine w_aload_n dX11_isAgreed_26 rfl ?_
    refine w_getR dX11_isAgreed_27 f_11_11 t_11_0 g1 ?_
    refine w_iload_n dX11_isAgreed_30 rfl ?_
    obtain ⟨g4, k⟩ := k
    refine w_aaload dX11_isAgreed_31 rfl g4 g2.1 g2.2 ?_
    obtain ⟨g5, k⟩ := k
    obtain ⟨g6, k⟩ := k
    exact w_virt (as1 := [.ref (hAR h (hR h 1100 v0) (v2).toNatClampNeg), .ref (hAR h (hR h 1100 v0) (v1).toNatClampNeg)]) (as2 := [.ref (hAR h (hR h 1100 v0) (v1).toNatClampNeg), .ref (hAR h (hR h 1100 v0) (v2).toNatClampNeg)]) (rest := []) (lo2 := [some (.ref (hAR h (hR h 1100 v0) (v1).toNatClampNeg)), some (.ref (hAR h (hR h 1100 v0) (v2).toNatClampNeg)), none, none, none]) dX11_isAgreed_32 c_11_331 rfl rfl rfl (Nat.le_of_ble_eq_true rfl) (Nat.le_of_ble_eq_true rfl) rfl (Nat.le_of_ble_eq_true rfl) rfl rfl g5 g6 k
theorem bX11_isAgreed_35 {d : Nat} {h : HP} {Q : Out → HP → Prop} {v0 : Nat} {v1 : Int32} {v2 : Int32} {s0 : Int32} (k : ((¬ s0 = 0) → WP d mX11_isAgreed 15 [some (.ref v0), some (.int v1), some (.int (v2 + (1 : Int32)))] [] h Q) ∧ ((¬ (¬ s0 = 0)) → Q (.inl (some (.int (0 : Int32)))) h)) : WP d mX11_isAgreed 35 [some (.ref v0), some (.int v1), some (.int v2)] [.int s0] h Q := by
  refine w_if_ne (pc' := 40) dX11_isAgreed_35 rfl rfl ⟨fun c => ?_, fun c => ?_⟩
  · replace k := k.1 c
    refine w_iinc (lo' := [some (.ref v0), some (.int v1), some (.int (v2 + (1 : Int32)))]) dX11_isAgreed_40 rfl i1_1 rfl ?_
    refine w_goto (pc' := 15) dX11_isAgreed_43 rfl rfl ?_
    exact k
  · replace k := k.2 c
    refine w_iconst dX11_isAgreed_38 i1_0 ?_
    exact w_ireturn dX11_isAgreed_39 rfl k
theorem bX11_renew_0 {d : Nat} {h : HP} {Q : Out → HP → Prop} {v0 : Nat} {v1 : Int32} {u2 : Option Value} (k : (hK h v0 = 11) ∧ ((1 < (hR h 1101 v0)) ∧ ((hK h (hR h 1101 v0) = 10) ∧ (WP d mX10_renew 0 [some (.ref (hR h 1101 v0)), some (.int v1), none] [] h (KK d mX11_renew mX10_renew 5 [some (.ref v0), some (.int v1), u2] [] Q))))) : WP (d + 1) mX11_renew 0 [some (.ref v0), some (.int v1), u2] [] h Q := by
  refine w_aload_n dX11_renew_0 rfl ?_
  obtain ⟨g1, k⟩ := k
  refine w_getR dX11_renew_1 f_11_18 t_11_1 g1 ?_
  refine w_iload_n dX11_renew_4 rfl ?_
  obtain ⟨g2, k⟩ := k
  obtain ⟨g3, k⟩ := k
  exact w_virt (as1 := [.int v1, .ref (hR h 1101 v0)]) (as2 := [.ref (hR h 1101 v0), .int v1]) (rest := []) (lo2 := [some (.ref (hR h 1101 v0)), some (.int v1), none]) dX11_renew_5 c_11_335 rfl rfl rfl (Nat.le_of_ble_eq_true rfl) (Nat.le_of_ble_eq_true rfl) rfl (Nat.le_of_ble_eq_true rfl) rfl rfl g2 g3 k
theorem bX11_renew_8 {d : Nat} {h : HP} {Q : Out → HP → Prop} {v0 : Nat} {v1 : Int32} {u2 : Option Value} (k : (hK h v0 = 11) ∧ ((1 < (hR h 1102 v0)) ∧ ((hK h (hR h 1102 v0) = 6) ∧ (WP d mX6_renew 0 [some (.ref (hR h 1102 v0))] [] h (KK d mX11_renew mX6_renew 12 [some (.ref v0), some (.int v1), u2] [] Q))))) : WP (d + 1) mX11_renew 8 [some (.ref v0), some (.int v1), u2] [] h Q := by
  refine w_aload_n dX11_renew_8 rfl ?_
  obtain ⟨g1, k⟩ := k
  refine w_getR dX11_renew_9 f_11_27 t_11_2 g1 ?_
  obtain ⟨g2, k⟩ := k
  obtain ⟨g3, k⟩ := k
  exact w_virt (as1 := [.ref (hR h 1102 v0)]) (as2 := [.ref (hR h 1102 v0)]) (rest := []) (lo2 := [some (.ref (hR h 1102 v0))]) dX11_renew_12 c_11_336 rfl rfl rfl (Nat.le_of_ble_eq_true rfl) (Nat.le_of_ble_eq_true rfl) rfl (Nat.le_of_ble_eq_true rfl) rfl rfl g2 g3 k
theorem bX11_renew_15 {d : Nat} {h : HP} {Q : Out → HP → Prop} {v0 : Nat} {v1 : Int32} {u2 : Option Value} (k : (hK h v0 = 11) ∧ ((1 < (hR h 1104 v0)) ∧ ((hK h (hR h 1104 v0) = 4) ∧ (WP d mX4_renew 0 [some (.ref (hR h 1104 v0))] [] h (KK d mX11_renew mX4_renew 19 [some (.ref v0), some (.int v1), u2] [] Q))))) : WP (d + 1) mX11_renew 15 [some (.ref v0), some (.int v1), u2] [] h Q := by
  refine w_aload_n dX11_renew_15 rfl ?_
  obtain ⟨g1, k⟩ := k
  refine w_getR dX11_renew_16 f_11_41 t_11_4 g1 ?_
  obtain ⟨g2, k⟩ := k
  obtain ⟨g3, k⟩ := k
  exact w_virt (as1 := [.ref (hR h 1104 v0)]) (as2 := [.ref (hR h 1104 v0)]) (rest := []) (lo2 := [some (.ref (hR h 1104 v0))]) dX11_renew_19 c_11_338 rfl rfl rfl (Nat.le_of_ble_eq_true rfl) (Nat.le_of_ble_eq_true rfl) rfl (Nat.le_of_ble_eq_true rfl) rfl rfl g2 g3 k
theorem bX11_renew_22 {d : Nat} {h : HP} {Q : Out → HP → Prop} {v0 : Nat} {v1 : Int32} {u2 : Option Value} (k : (hK h v0 = 11) ∧ (WP d mX11_renew 29 [some (.ref v0), some (.int v1), some (.int (0 : Int32))] [] (sF h 1105 v0 FP.fconst0) Q)) : WP d mX11_renew 22 [some (.ref v0), some (.int v1), u2] [] h Q := by
  refine w_aload_n dX11_renew_22 rfl ?_
  refine w_fconst0 dX11_renew_23 ?_
  obtain ⟨g1, k⟩ := k
  refine w_putF dX11_renew_24 f_11_106 t_11_5 (pf_nf n_11_5) g1 ?_
  refine w_iconst dX11_renew_27 i1_0 ?_
  refine w_istore_n (lo' := [some (.ref v0), some (.int v1), some (.int (0 : Int32))]) dX11_renew_28 (ltQ rfl) rfl ?_
  exact k
theorem bX11_renew_29 {d : Nat} {h : HP} {Q : Out → HP → Prop} {v0 : Nat} {v1 : Int32} {v2 : Int32} (k : (((5 : Int32) ≤ v2) → Q (.inl none) h) ∧ ((¬ ((5 : Int32) ≤ v2)) → (hK h v0 = 11) ∧ ((25 ≤ hK h (hR h 1100 v0) ∧ hK h (hR h 1100 v0) ≤ 29) ∧ ((inA h (hR h 1100 v0) v2 = true) ∧ ((1 < (hAR h (hR h 1100 v0) (v2).toNatClampNeg)) ∧ ((hK h (hAR h (hR h 1100 v0) (v2).toNatClampNeg) = 8) ∧ (WP d mX8_renew 0 [some (.ref (hAR h (hR h 1100 v0) (v2).toNatClampNeg)), none] [] h (KK d mX11_renew mX8_renew 40 [some (.ref v0), some (.int v1), some (.int v2)] [] Q)))))))) : WP (d + 1) mX11_renew 29 [some (.ref v0), some (.int v1), some (.int v2)] [] h Q := by
  refine w_iload_n dX11_renew_29 rfl ?_
  refine w_iconst dX11_renew_30 i1_5 ?_
  refine w_ic_ge (pc' := 49) dX11_renew_31 rfl rfl ⟨fun c => ?_, fun c => ?_⟩
  · replace k := k.1 c
    exact w_return dX11_renew_49 rfl k
  · replace k := k.2 c
    refine w_aload_n dX11_renew_34 rfl ?_
    obtain ⟨g1, k⟩ := k
    refine w_getR dX11_renew_35 f_11_11 t_11_0 g1 ?_
    refine w_iload_n dX11_renew_38 rfl ?_
    obtain ⟨g2, k⟩ := k
    obtain ⟨g3, k⟩ := k
    refine w_aaload dX11_renew_39 rfl g3 g2.1 g2.2 ?_
    obtain ⟨g4, k⟩ := k
    obtain ⟨g5, k⟩ := k
    exact w_virt (as1 := [.ref (hAR h (hR h 1100 v0) (v2).toNatClampNeg)]) (as2 := [.ref (hAR h (hR h 1100 v0) (v2).toNatClampNeg)]) (rest := []) (lo2 := [some (.ref (hAR h (hR h 1100 v0) (v2).toNatClampNeg)), none]) dX11_renew_40 c_11_339 rfl rfl rfl (Nat.le_of_ble_eq_true rfl) (Nat.le_of_ble_eq_true rfl) rfl (Nat.le_of_ble_eq_true rfl) rfl rfl g4 g5 k
theorem bX11_renew_43 {d : Nat} {h : HP} {Q : Out → HP → Prop} {v0 : Nat} {v1 : Int32} {v2 : Int32} (k : WP d mX11_renew 29 [some (.ref v0), some (.int v1), some (.int (v2 + (1 : Int32)))] [] h Q) : WP d mX11_renew 43 [some (.ref v0), some (.int v1), some (.int v2)] [] h Q := by
  refine w_iinc (lo' := [some (.ref v0), some (.int v1), some (.int (v2 + (1 : Int32)))]) dX11_renew_43 rfl i1_1 rfl ?_
  refine w_goto (pc' := 29) dX11_renew_46 rfl rfl ?_
  exact k
theorem bX11_needMachine_0 {d : Nat} {h : HP} {Q : Out → HP → Prop} {v0 : Nat} {v1 : Int32} (k : ((v1 < 0) → Q (.inr 3) (thr h)) ∧ ((¬ (v1 < 0)) → (hK h v0 = 11) ∧ ((hK h (hR h 1101 v0) = 10) ∧ (((v1 < (hI h 1000 (hR h 1101 v0))) → (25 ≤ hK h (hR h 1100 v0) ∧ hK h (hR h 1100 v0) ≤ 29) ∧ ((inA h (hR h 1100 v0) v1 = true) ∧ (Q (.inl (some (.ref (hAR h (hR h 1100 v0) (v1).toNatClampNeg)))) h))) ∧ ((¬ (v1 < (hI h 1000 (hR h 1101 v0)))) → Q (.inr 3) (thr h)))))) : WP d mX11_needMachine 0 [some (.ref v0), some (.int v1)] [] h Q := by
  refine w_iload_n dX11_needMachine_0 rfl ?_
  refine w_if_lt (pc' := 15) dX11_needMachine_1 rfl rfl ⟨fun c => ?_, fun c => ?_⟩
  · replace k := k.1 c
    exact w_thr dX11_needMachine_15 nx_11_182 tw_X11_needMachine_15 (Nat.le_of_ble_eq_true rfl) rfl rfl k
  · replace k := k.2 c
    refine w_iload_n dX11_needMachine_4 rfl ?_
    refine w_aload_n dX11_needMachine_5 rfl ?_
    obtain ⟨g1, k⟩ := k
    refine w_getR dX11_needMachine_6 f_11_18 t_11_1 g1 ?_
    obtain ⟨g2, k⟩ := k
    refine w_getI dX11_needMachine_9 f_11_58 t_10_0 g2 ?_
    refine w_ic_lt (pc' := 26) dX11_needMachine_12 rfl rfl ⟨fun c => ?_, fun c => ?_⟩
    · replace k := k.1 c
      refine w_aload_n dX11_needMachine_26 rfl ?_
      refine w_getR dX11_needMachine_27 f_11_11 t_11_0 g1 ?_
      refine w_iload_n dX11_needMachine_30 rfl ?_
      obtain ⟨g3, k⟩ := k
      obtain ⟨g4, k⟩ := k
      refine w_aaload dX11_needMachine_31 rfl g4 g3.1 g3.2 ?_
      exact w_areturn dX11_needMachine_32 rfl k
    · replace k := k.2 c
      exact w_thr dX11_needMachine_15 nx_11_182 tw_X11_needMachine_15 (Nat.le_of_ble_eq_true rfl) rfl rfl k
theorem bX11_needChoice_0 {d : Nat} {h : HP} {Q : Out → HP → Prop} {v0 : Nat} {v1 : Nat} {v2 : Int32} (k : ((v2 < 0) → Q (.inr 3) (thr h)) ∧ ((¬ (v2 < 0)) → ((v2 < (4 : Int32)) → (hK h v1 = 8) ∧ ((25 ≤ hK h (hR h 803 v1) ∧ hK h (hR h 803 v1) ≤ 29) ∧ ((inA h (hR h 803 v1) v2 = true) ∧ (Q (.inl (some (.ref (hAR h (hR h 803 v1) (v2).toNatClampNeg)))) h)))) ∧ ((¬ (v2 < (4 : Int32))) → Q (.inr 3) (thr h)))) : WP d mX11_needChoice 0 [some (.ref v0), some (.ref v1), some (.int v2)] [] h Q := by
  refine w_iload_n dX11_needChoice_0 rfl ?_
  refine w_if_lt (pc' := 9) dX11_needChoice_1 rfl rfl ⟨fun c => ?_, fun c => ?_⟩
  · replace k := k.1 c
    exact w_thr dX11_needChoice_9 nx_11_182 tw_X11_needChoice_9 (Nat.le_of_ble_eq_true rfl) rfl rfl k
  · replace k := k.2 c
    refine w_iload_n dX11_needChoice_4 rfl ?_
    refine w_iconst dX11_needChoice_5 i1_4 ?_
    refine w_ic_lt (pc' := 20) dX11_needChoice_6 rfl rfl ⟨fun c => ?_, fun c => ?_⟩
    · replace k := k.1 c
      refine w_aload_n dX11_needChoice_20 rfl ?_
      obtain ⟨g1, k⟩ := k
      refine w_getR dX11_needChoice_21 f_11_344 t_8_3 g1 ?_
      refine w_iload_n dX11_needChoice_24 rfl ?_
      obtain ⟨g2, k⟩ := k
      obtain ⟨g3, k⟩ := k
      refine w_aaload dX11_needChoice_25 rfl g3 g2.1 g2.2 ?_
      exact w_areturn dX11_needChoice_26 rfl k
    · replace k := k.2 c
      exact w_thr dX11_needChoice_9 nx_11_182 tw_X11_needChoice_9 (Nat.le_of_ble_eq_true rfl) rfl rfl k
theorem bX11_needRange_0 {d : Nat} {h : HP} {Q : Out → HP → Prop} {v0 : Int32} {v1 : Int32} {v2 : Int32} (k : ((v0 < v1) → Q (.inr 1) (thr h)) ∧ ((¬ (v0 < v1)) → ((v0 ≤ v2) → Q (.inl none) h) ∧ ((¬ (v0 ≤ v2)) → Q (.inr 1) (thr h)))) : WP d mX11_needRange 0 [some (.int v0), some (.int v1), some (.int v2)] [] h Q := by
  refine w_iload_n dX11_needRange_0 rfl ?_
  refine w_iload_n dX11_needRange_1 rfl ?_
  refine w_ic_lt (pc' := 10) dX11_needRange_2 rfl rfl ⟨fun c => ?_, fun c => ?_⟩
  · replace k := k.1 c
    exact w_thr dX11_needRange_10 nx_11_51 tw_X11_needRange_10 (Nat.le_of_ble_eq_true rfl) rfl rfl k
  · replace k := k.2 c
    refine w_iload_n dX11_needRange_5 rfl ?_
    refine w_iload_n dX11_needRange_6 rfl ?_
    refine w_ic_le (pc' := 21) dX11_needRange_7 rfl rfl ⟨fun c => ?_, fun c => ?_⟩
    · replace k := k.1 c
      exact w_return dX11_needRange_21 rfl k
    · replace k := k.2 c
      exact w_thr dX11_needRange_10 nx_11_51 tw_X11_needRange_10 (Nat.le_of_ble_eq_true rfl) rfl rfl k
theorem bX11_needMessage_0 {d : Nat} {h : HP} {Q : Out → HP → Prop} {v0 : Nat} {v1 : Int32} {u2 : Option Value} (k : (hK h v0 = 11) ∧ ((1 < (hR h 1101 v0)) ∧ ((hK h (hR h 1101 v0) = 10) ∧ (WP d mX10_at 0 [some (.ref (hR h 1101 v0)), some (.int v1)] [] h (KK d mX11_needMessage mX10_at 5 [some (.ref v0), some (.int v1), u2] [] Q))))) : WP (d + 1) mX11_needMessage 0 [some (.ref v0), some (.int v1), u2] [] h Q := by
  refine w_aload_n dX11_needMessage_0 rfl ?_
  obtain ⟨g1, k⟩ := k
  refine w_getR dX11_needMessage_1 f_11_18 t_11_1 g1 ?_
  refine w_iload_n dX11_needMessage_4 rfl ?_
  obtain ⟨g2, k⟩ := k
  obtain ⟨g3, k⟩ := k
  exact w_virt (as1 := [.int v1, .ref (hR h 1101 v0)]) (as2 := [.ref (hR h 1101 v0), .int v1]) (rest := []) (lo2 := [some (.ref (hR h 1101 v0)), some (.int v1)]) dX11_needMessage_5 c_11_350 rfl rfl rfl (Nat.le_of_ble_eq_true rfl) (Nat.le_of_ble_eq_true rfl) rfl (Nat.le_of_ble_eq_true rfl) rfl rfl g2 g3 k
theorem bX11_needMessage_8 {d : Nat} {h : HP} {Q : Out → HP → Prop} {v0 : Nat} {v1 : Int32} {u2 : Option Value} {s0 : Nat} (k : ((¬ s0 = 0) → Q (.inl (some (.ref s0))) h) ∧ ((¬ (¬ s0 = 0)) → Q (.inr 3) (thr h))) : WP d mX11_needMessage 8 [some (.ref v0), some (.int v1), u2] [.ref s0] h Q := by
  refine w_astore_n (lo' := [some (.ref v0), some (.int v1), some (.ref s0)]) dX11_needMessage_8 (ltQ rfl) rfl ?_
  refine w_aload_n dX11_needMessage_9 rfl ?_
  refine w_ifnonnull (pc' := 24) dX11_needMessage_10 rfl rfl ⟨fun c => ?_, fun c => ?_⟩
  · replace k := k.1 c
    refine w_aload_n dX11_needMessage_24 rfl ?_
    exact w_areturn dX11_needMessage_25 rfl k
  · replace k := k.2 c
    exact w_thr dX11_needMessage_13 nx_11_182 tw_X11_needMessage_13 (Nat.le_of_ble_eq_true rfl) rfl rfl k
theorem bX12_init_0 {d : Nat} {h : HP} {Q : Out → HP → Prop} {v0 : Nat} (k : (1 < v0) ∧ ((hK h v0 = 12) ∧ ((hK (nw (sF (sI h 1200 v0 (3 : Int32)) 1202 v0 (1092616192 : UInt32)) 21 5 5) v0 = 12) ∧ ((hK (nw (sR (nw (sF (sI h 1200 v0 (3 : Int32)) 1202 v0 (1092616192 : UInt32)) 21 5 5) 1205 v0 (hN h)) 21 25 25) v0 = 12) ∧ ((hK (nw (sR (nw (sR (nw (sF (sI h 1200 v0 (3 : Int32)) 1202 v0 (1092616192 : UInt32)) 21 5 5) 1205 v0 (hN h)) 21 25 25) 1206 v0 (hN (sR (nw (sF (sI h 1200 v0 (3 : Int32)) 1202 v0 (1092616192 : UInt32)) 21 5 5) 1205 v0 (hN h)))) 22 5 5) v0 = 12) ∧ (WP d mX12_init 41 [some (.ref v0)] [.ref (hN (sR (nw (sR (nw (sR (nw (sF (sI h 1200 v0 (3 : Int32)) 1202 v0 (1092616192 : UInt32)) 21 5 5) 1205 v0 (hN h)) 21 25 25) 1206 v0 (hN (sR (nw (sF (sI h 1200 v0 (3 : Int32)) 1202 v0 (1092616192 : UInt32)) 21 5 5) 1205 v0 (hN h)))) 22 5 5) 1207 v0 (hN (sR (nw (sR (nw (sF (sI h 1200 v0 (3 : Int32)) 1202 v0 (1092616192 : UInt32)) 21 5 5) 1205 v0 (hN h)) 21 25 25) 1206 v0 (hN (sR (nw (sF (sI h 1200 v0 (3 : Int32)) 1202 v0 (1092616192 : UInt32)) 21 5 5) 1205 v0 (hN h))))))), .ref v0] (nw (sR (nw (sR (nw (sR (nw (sF (sI h 1200 v0 (3 : Int32)) 1202 v0 (1092616192 : UInt32)) 21 5 5) 1205 v0 (hN h)) 21 25 25) 1206 v0 (hN (sR (nw (sF (sI h 1200 v0 (3 : Int32)) 1202 v0 (1092616192 : UInt32)) 21 5 5) 1205 v0 (hN h)))) 22 5 5) 1207 v0 (hN (sR (nw (sR (nw (sF (sI h 1200 v0 (3 : Int32)) 1202 v0 (1092616192 : UInt32)) 21 5 5) 1205 v0 (hN h)) 21 25 25) 1206 v0 (hN (sR (nw (sF (sI h 1200 v0 (3 : Int32)) 1202 v0 (1092616192 : UInt32)) 21 5 5) 1205 v0 (hN h)))))) 22 5 5) Q)))))) : WP d mX12_init 0 [some (.ref v0)] [] h Q := by
  refine w_aload_n dX12_init_0 rfl ?_
  obtain ⟨g1, k⟩ := k
  refine w_obj dX12_init_1 c_12_1 (Nat.le_of_ble_eq_true rfl) rfl g1 ?_
  refine w_aload_n dX12_init_4 rfl ?_
  refine w_iconst dX12_init_5 i1_3 ?_
  obtain ⟨g2, k⟩ := k
  refine w_putI dX12_init_6 f_12_7 t_12_0 (pf_nf n_12_0) g2 ?_
  refine w_aload_n dX12_init_9 rfl ?_
  refine w_ldc dX12_init_10 l_12_13 ?_
  refine w_putF dX12_init_12 f_12_14 t_12_2 (pf_nf n_12_2) g2 ?_
  refine w_aload_n dX12_init_15 rfl ?_
  refine w_iconst dX12_init_16 i1_5 ?_
  refine w_nar_boolean (m := 5) dX12_init_17 (by decide) (by decide) (by decide) ?_
  obtain ⟨g3, k⟩ := k
  refine w_putR dX12_init_19 f_12_18 t_12_5 (pf_in rfl rfl) g3 ?_
  refine w_aload_n dX12_init_22 rfl ?_
  refine w_bipush dX12_init_23 i2_25 ?_
  refine w_nar_boolean (m := 25) dX12_init_25 (by decide) (by decide) (by decide) ?_
  obtain ⟨g4, k⟩ := k
  refine w_putR dX12_init_27 f_12_22 t_12_6 (pf_in rfl rfl) g4 ?_
  refine w_aload_n dX12_init_30 rfl ?_
  refine w_iconst dX12_init_31 i1_5 ?_
  refine w_nar_float (m := 5) dX12_init_32 (by decide) (by decide) (by decide) ?_
  obtain ⟨g5, k⟩ := k
  refine w_putR dX12_init_34 f_12_25 t_12_7 (pf_in rfl rfl) g5 ?_
  refine w_aload_n dX12_init_37 rfl ?_
  refine w_iconst dX12_init_38 i1_5 ?_
  refine w_nar_float (m := 5) dX12_init_39 (by decide) (by decide) (by decide) ?_
  exact k
theorem bX12_init_41 {d : Nat} {h : HP} {Q : Out → HP → Prop} {v0 : Nat} {s0 : Nat} {s1 : Nat} (k : (hK h s1 = 12) ∧ ((hK (nw (sR h 1208 s1 s0) 20 5 5) v0 = 12) ∧ ((hK (nw (sR (nw (sR h 1208 s1 s0) 20 5 5) 1209 v0 (hN h)) 20 5 5) v0 = 12) ∧ ((hK (nw (sR (nw (sR (nw (sR h 1208 s1 s0) 20 5 5) 1209 v0 (hN h)) 20 5 5) 1210 v0 (hN (sR (nw (sR h 1208 s1 s0) 20 5 5) 1209 v0 (hN h)))) 20 5 5) v0 = 12) ∧ (WP d mX12_init 69 [some (.ref v0)] [.ref (hN (sR (nw (sR (nw (sR (nw (sR h 1208 s1 s0) 20 5 5) 1209 v0 (hN h)) 20 5 5) 1210 v0 (hN (sR (nw (sR h 1208 s1 s0) 20 5 5) 1209 v0 (hN h)))) 20 5 5) 1211 v0 (hN (sR (nw (sR (nw (sR h 1208 s1 s0) 20 5 5) 1209 v0 (hN h)) 20 5 5) 1210 v0 (hN (sR (nw (sR h 1208 s1 s0) 20 5 5) 1209 v0 (hN h))))))), .ref v0] (nw (sR (nw (sR (nw (sR (nw (sR h 1208 s1 s0) 20 5 5) 1209 v0 (hN h)) 20 5 5) 1210 v0 (hN (sR (nw (sR h 1208 s1 s0) 20 5 5) 1209 v0 (hN h)))) 20 5 5) 1211 v0 (hN (sR (nw (sR (nw (sR h 1208 s1 s0) 20 5 5) 1209 v0 (hN h)) 20 5 5) 1210 v0 (hN (sR (nw (sR h 1208 s1 s0) 20 5 5) 1209 v0 (hN h)))))) 20 5 5) Q))))) : WP d mX12_init 41 [some (.ref v0)] [.ref s0, .ref s1] h Q := by
  obtain ⟨g1, k⟩ := k
  refine w_putR dX12_init_41 f_12_29 t_12_8 (pf_in rfl rfl) g1 ?_
  refine w_aload_n dX12_init_44 rfl ?_
  refine w_iconst dX12_init_45 i1_5 ?_
  refine w_nar_int (m := 5) dX12_init_46 (by decide) (by decide) (by decide) ?_
  obtain ⟨g2, k⟩ := k
  refine w_putR dX12_init_48 f_12_32 t_12_9 (pf_in rfl rfl) g2 ?_
  refine w_aload_n dX12_init_51 rfl ?_
  refine w_iconst dX12_init_52 i1_5 ?_
  refine w_nar_int (m := 5) dX12_init_53 (by decide) (by decide) (by decide) ?_
  obtain ⟨g3, k⟩ := k
  refine w_putR dX12_init_55 f_12_36 t_12_10 (pf_in rfl rfl) g3 ?_
  refine w_aload_n dX12_init_58 rfl ?_
  refine w_iconst dX12_init_59 i1_5 ?_
  refine w_nar_int (m := 5) dX12_init_60 (by decide) (by decide) (by decide) ?_
  obtain ⟨g4, k⟩ := k
  refine w_putR dX12_init_62 f_12_39 t_12_11 (pf_in rfl rfl) g4 ?_
  refine w_aload_n dX12_init_65 rfl ?_
  refine w_iconst dX12_init_66 i1_5 ?_
  refine w_nar_int (m := 5) dX12_init_67 (by decide) (by decide) (by decide) ?_
  exact k
theorem bX12_init_69 {d : Nat} {h : HP} {Q : Out → HP → Prop} {v0 : Nat} {s0 : Nat} {s1 : Nat} (k : (hK h s1 = 12) ∧ ((hK (nw (sR h 1212 s1 s0) 20 5 5) v0 = 12) ∧ ((hK (nw (sR (nw (sR h 1212 s1 s0) 20 5 5) 1213 v0 (hN h)) 20 150 150) v0 = 12) ∧ ((hK (nw (sR (nw (sR (nw (sR h 1212 s1 s0) 20 5 5) 1213 v0 (hN h)) 20 150 150) 1214 v0 (hN (sR (nw (sR h 1212 s1 s0) 20 5 5) 1213 v0 (hN h)))) 20 150 150) v0 = 12) ∧ (WP d mX12_init 103 [some (.ref v0)] [.ref (hN (sR (nw (sR (nw (sR (nw (sR h 1212 s1 s0) 20 5 5) 1213 v0 (hN h)) 20 150 150) 1214 v0 (hN (sR (nw (sR h 1212 s1 s0) 20 5 5) 1213 v0 (hN h)))) 20 150 150) 1215 v0 (hN (sR (nw (sR (nw (sR h 1212 s1 s0) 20 5 5) 1213 v0 (hN h)) 20 150 150) 1214 v0 (hN (sR (nw (sR h 1212 s1 s0) 20 5 5) 1213 v0 (hN h))))))), .ref v0] (nw (sR (nw (sR (nw (sR (nw (sR h 1212 s1 s0) 20 5 5) 1213 v0 (hN h)) 20 150 150) 1214 v0 (hN (sR (nw (sR h 1212 s1 s0) 20 5 5) 1213 v0 (hN h)))) 20 150 150) 1215 v0 (hN (sR (nw (sR (nw (sR h 1212 s1 s0) 20 5 5) 1213 v0 (hN h)) 20 150 150) 1214 v0 (hN (sR (nw (sR h 1212 s1 s0) 20 5 5) 1213 v0 (hN h)))))) 20 150 150) Q))))) : WP d mX12_init 69 [some (.ref v0)] [.ref s0, .ref s1] h Q := by
  obtain ⟨g1, k⟩ := k
  refine w_putR dX12_init_69 f_12_42 t_12_12 (pf_in rfl rfl) g1 ?_
  refine w_aload_n dX12_init_72 rfl ?_
  refine w_iconst dX12_init_73 i1_5 ?_
  refine w_nar_int (m := 5) dX12_init_74 (by decide) (by decide) (by decide) ?_
  obtain ⟨g2, k⟩ := k
  refine w_putR dX12_init_76 f_12_45 t_12_13 (pf_in rfl rfl) g2 ?_
  refine w_aload_n dX12_init_79 rfl ?_
  refine w_sipush dX12_init_80 i3_150 ?_
  refine w_nar_int (m := 150) dX12_init_83 (by decide) (by decide) (by decide) ?_
  obtain ⟨g3, k⟩ := k
  refine w_putR dX12_init_85 f_12_48 t_12_14 (pf_in rfl rfl) g3 ?_
  refine w_aload_n dX12_init_88 rfl ?_
  refine w_sipush dX12_init_89 i3_150 ?_
  refine w_nar_int (m := 150) dX12_init_92 (by decide) (by decide) (by decide) ?_
  obtain ⟨g4, k⟩ := k
  refine w_putR dX12_init_94 f_12_51 t_12_15 (pf_in rfl rfl) g4 ?_
  refine w_aload_n dX12_init_97 rfl ?_
  refine w_sipush dX12_init_98 i3_150 ?_
  refine w_nar_int (m := 150) dX12_init_101 (by decide) (by decide) (by decide) ?_
  exact k
theorem bX12_init_103 {d : Nat} {h : HP} {Q : Out → HP → Prop} {v0 : Nat} {s0 : Nat} {s1 : Nat} (k : (hK h s1 = 12) ∧ ((hK (nw (sR h 1216 s1 s0) 20 150 150) v0 = 12) ∧ ((hK (nw (sR (nw (sR h 1216 s1 s0) 20 150 150) 1217 v0 (hN h)) 20 5 5) v0 = 12) ∧ ((hK (nw (sR (nw (sR (nw (sR h 1216 s1 s0) 20 150 150) 1217 v0 (hN h)) 20 5 5) 1218 v0 (hN (sR (nw (sR h 1216 s1 s0) 20 150 150) 1217 v0 (hN h)))) 20 25 25) v0 = 12) ∧ (WP d mX12_init 135 [some (.ref v0)] [.ref (hN (sR (nw (sR (nw (sR (nw (sR h 1216 s1 s0) 20 150 150) 1217 v0 (hN h)) 20 5 5) 1218 v0 (hN (sR (nw (sR h 1216 s1 s0) 20 150 150) 1217 v0 (hN h)))) 20 25 25) 1219 v0 (hN (sR (nw (sR (nw (sR h 1216 s1 s0) 20 150 150) 1217 v0 (hN h)) 20 5 5) 1218 v0 (hN (sR (nw (sR h 1216 s1 s0) 20 150 150) 1217 v0 (hN h))))))), .ref v0] (nw (sR (nw (sR (nw (sR (nw (sR h 1216 s1 s0) 20 150 150) 1217 v0 (hN h)) 20 5 5) 1218 v0 (hN (sR (nw (sR h 1216 s1 s0) 20 150 150) 1217 v0 (hN h)))) 20 25 25) 1219 v0 (hN (sR (nw (sR (nw (sR h 1216 s1 s0) 20 150 150) 1217 v0 (hN h)) 20 5 5) 1218 v0 (hN (sR (nw (sR h 1216 s1 s0) 20 150 150) 1217 v0 (hN h)))))) 20 25 25) Q))))) : WP d mX12_init 103 [some (.ref v0)] [.ref s0, .ref s1] h Q := by
  obtain ⟨g1, k⟩ := k
  refine w_putR dX12_init_103 f_12_54 t_12_16 (pf_in rfl rfl) g1 ?_
  refine w_aload_n dX12_init_106 rfl ?_
  refine w_sipush dX12_init_107 i3_150 ?_
  refine w_nar_int (m := 150) dX12_init_110 (by decide) (by decide) (by decide) ?_
  obtain ⟨g2, k⟩ := k
  refine w_putR dX12_init_112 f_12_57 t_12_17 (pf_in rfl rfl) g2 ?_
  refine w_aload_n dX12_init_115 rfl ?_
  refine w_iconst dX12_init_116 i1_5 ?_
  refine w_nar_int (m := 5) dX12_init_117 (by decide) (by decide) (by decide) ?_
  obtain ⟨g3, k⟩ := k
  refine w_putR dX12_init_119 f_12_60 t_12_18 (pf_in rfl rfl) g3 ?_
  refine w_aload_n dX12_init_122 rfl ?_
  refine w_bipush dX12_init_123 i2_25 ?_
  refine w_nar_int (m := 25) dX12_init_125 (by decide) (by decide) (by decide) ?_
  obtain ⟨g4, k⟩ := k
  refine w_putR dX12_init_127 f_12_63 t_12_19 (pf_in rfl rfl) g4 ?_
  refine w_aload_n dX12_init_130 rfl ?_
  refine w_bipush dX12_init_131 i2_25 ?_
  refine w_nar_int (m := 25) dX12_init_133 (by decide) (by decide) (by decide) ?_
  exact k
theorem bX12_init_135 {d : Nat} {h : HP} {Q : Out → HP → Prop} {v0 : Nat} {s0 : Nat} {s1 : Nat} (k : (hK h s1 = 12) ∧ ((hK (nw (sR h 1220 s1 s0) 21 25 25) v0 = 12) ∧ ((hK (nw (sR (nw (sR h 1220 s1 s0) 21 25 25) 1221 v0 (hN h)) 22 25 25) v0 = 12) ∧ ((hK (nw (sR (nw (sR (nw (sR h 1220 s1 s0) 21 25 25) 1221 v0 (hN h)) 22 25 25) 1222 v0 (hN (sR (nw (sR h 1220 s1 s0) 21 25 25) 1221 v0 (hN h)))) 21 5 5) v0 = 12) ∧ (WP d mX12_init 165 [some (.ref v0)] [.ref (hN (sR (nw (sR (nw (sR (nw (sR h 1220 s1 s0) 21 25 25) 1221 v0 (hN h)) 22 25 25) 1222 v0 (hN (sR (nw (sR h 1220 s1 s0) 21 25 25) 1221 v0 (hN h)))) 21 5 5) 1223 v0 (hN (sR (nw (sR (nw (sR h 1220 s1 s0) 21 25 25) 1221 v0 (hN h)) 22 25 25) 1222 v0 (hN (sR (nw (sR h 1220 s1 s0) 21 25 25) 1221 v0 (hN h))))))), .ref v0] (nw (sR (nw (sR (nw (sR (nw (sR h 1220 s1 s0) 21 25 25) 1221 v0 (hN h)) 22 25 25) 1222 v0 (hN (sR (nw (sR h 1220 s1 s0) 21 25 25) 1221 v0 (hN h)))) 21 5 5) 1223 v0 (hN (sR (nw (sR (nw (sR h 1220 s1 s0) 21 25 25) 1221 v0 (hN h)) 22 25 25) 1222 v0 (hN (sR (nw (sR h 1220 s1 s0) 21 25 25) 1221 v0 (hN h)))))) 22 5 5) Q))))) : WP d mX12_init 135 [some (.ref v0)] [.ref s0, .ref s1] h Q := by
  obtain ⟨g1, k⟩ := k
  refine w_putR dX12_init_135 f_12_66 t_12_20 (pf_in rfl rfl) g1 ?_
  refine w_aload_n dX12_init_138 rfl ?_
  refine w_bipush dX12_init_139 i2_25 ?_
  refine w_nar_boolean (m := 25) dX12_init_141 (by decide) (by decide) (by decide) ?_
  obtain ⟨g2, k⟩ := k
  refine w_putR dX12_init_143 f_12_69 t_12_21 (pf_in rfl rfl) g2 ?_
  refine w_aload_n dX12_init_146 rfl ?_
  refine w_bipush dX12_init_147 i2_25 ?_
  refine w_nar_float (m := 25) dX12_init_149 (by decide) (by decide) (by decide) ?_
  obtain ⟨g3, k⟩ := k
  refine w_putR dX12_init_151 f_12_72 t_12_22 (pf_in rfl rfl) g3 ?_
  refine w_aload_n dX12_init_154 rfl ?_
  refine w_iconst dX12_init_155 i1_5 ?_
  refine w_nar_boolean (m := 5) dX12_init_156 (by decide) (by decide) (by decide) ?_
  obtain ⟨g4, k⟩ := k
  refine w_putR dX12_init_158 f_12_75 t_12_23 (pf_in rfl rfl) g4 ?_
  refine w_aload_n dX12_init_161 rfl ?_
  refine w_iconst dX12_init_162 i1_5 ?_
  refine w_nar_float (m := 5) dX12_init_163 (by decide) (by decide) (by decide) ?_
  exact k
theorem bX12_init_165 {d : Nat} {h : HP} {Q : Out → HP → Prop} {v0 : Nat} {s0 : Nat} {s1 : Nat} (k : (hK h s1 = 12) ∧ ((hK (nw (sR h 1224 s1 s0) 20 5 5) v0 = 12) ∧ ((hK (nw (sR (nw (sR h 1224 s1 s0) 20 5 5) 1225 v0 (hN h)) 22 5 5) v0 = 12) ∧ ((hK (nw (sR (nw (sR (nw (sR h 1224 s1 s0) 20 5 5) 1225 v0 (hN h)) 22 5 5) 1226 v0 (hN (sR (nw (sR h 1224 s1 s0) 20 5 5) 1225 v0 (hN h)))) 20 20 20) v0 = 12) ∧ (WP d mX12_init 195 [some (.ref v0)] [.ref (hN (sR (nw (sR (nw (sR (nw (sR h 1224 s1 s0) 20 5 5) 1225 v0 (hN h)) 22 5 5) 1226 v0 (hN (sR (nw (sR h 1224 s1 s0) 20 5 5) 1225 v0 (hN h)))) 20 20 20) 1227 v0 (hN (sR (nw (sR (nw (sR h 1224 s1 s0) 20 5 5) 1225 v0 (hN h)) 22 5 5) 1226 v0 (hN (sR (nw (sR h 1224 s1 s0) 20 5 5) 1225 v0 (hN h))))))), .ref v0] (nw (sR (nw (sR (nw (sR (nw (sR h 1224 s1 s0) 20 5 5) 1225 v0 (hN h)) 22 5 5) 1226 v0 (hN (sR (nw (sR h 1224 s1 s0) 20 5 5) 1225 v0 (hN h)))) 20 20 20) 1227 v0 (hN (sR (nw (sR (nw (sR h 1224 s1 s0) 20 5 5) 1225 v0 (hN h)) 22 5 5) 1226 v0 (hN (sR (nw (sR h 1224 s1 s0) 20 5 5) 1225 v0 (hN h)))))) 20 20 20) Q))))) : WP d mX12_init 165 [some (.ref v0)] [.ref s0, .ref s1] h Q := by
  obtain ⟨g1, k⟩ := k
  refine w_putR dX12_init_165 f_12_78 t_12_24 (pf_in rfl rfl) g1 ?_
  refine w_aload_n dX12_init_168 rfl ?_
  refine w_iconst dX12_init_169 i1_5 ?_
  refine w_nar_int (m := 5) dX12_init_170 (by decide) (by decide) (by decide) ?_
  obtain ⟨g2, k⟩ := k
  refine w_putR dX12_init_172 f_12_81 t_12_25 (pf_in rfl rfl) g2 ?_
  refine w_aload_n dX12_init_175 rfl ?_
  refine w_iconst dX12_init_176 i1_5 ?_
  refine w_nar_float (m := 5) dX12_init_177 (by decide) (by decide) (by decide) ?_
  obtain ⟨g3, k⟩ := k
  refine w_putR dX12_init_179 f_12_84 t_12_26 (pf_in rfl rfl) g3 ?_
  refine w_aload_n dX12_init_182 rfl ?_
  refine w_bipush dX12_init_183 i2_20 ?_
  refine w_nar_int (m := 20) dX12_init_185 (by decide) (by decide) (by decide) ?_
  obtain ⟨g4, k⟩ := k
  refine w_putR dX12_init_187 f_12_87 t_12_27 (pf_in rfl rfl) g4 ?_
  refine w_aload_n dX12_init_190 rfl ?_
  refine w_bipush dX12_init_191 i2_20 ?_
  refine w_nar_int (m := 20) dX12_init_193 (by decide) (by decide) (by decide) ?_
  exact k
theorem bX12_init_195 {d : Nat} {h : HP} {Q : Out → HP → Prop} {v0 : Nat} {s0 : Nat} {s1 : Nat} (k : (hK h s1 = 12) ∧ ((hK (nw (sR h 1228 s1 s0) 20 20 20) v0 = 12) ∧ ((hK (nw (sR (nw (sR h 1228 s1 s0) 20 20 20) 1229 v0 (hN h)) 20 20 20) v0 = 12) ∧ ((hK (nw (sR (nw (sR (nw (sR h 1228 s1 s0) 20 20 20) 1229 v0 (hN h)) 20 20 20) 1230 v0 (hN (sR (nw (sR h 1228 s1 s0) 20 20 20) 1229 v0 (hN h)))) 20 20 20) v0 = 12) ∧ (WP d mX12_init 227 [some (.ref v0)] [.ref (hN (sR (nw (sR (nw (sR (nw (sR h 1228 s1 s0) 20 20 20) 1229 v0 (hN h)) 20 20 20) 1230 v0 (hN (sR (nw (sR h 1228 s1 s0) 20 20 20) 1229 v0 (hN h)))) 20 20 20) 1231 v0 (hN (sR (nw (sR (nw (sR h 1228 s1 s0) 20 20 20) 1229 v0 (hN h)) 20 20 20) 1230 v0 (hN (sR (nw (sR h 1228 s1 s0) 20 20 20) 1229 v0 (hN h))))))), .ref v0] (nw (sR (nw (sR (nw (sR (nw (sR h 1228 s1 s0) 20 20 20) 1229 v0 (hN h)) 20 20 20) 1230 v0 (hN (sR (nw (sR h 1228 s1 s0) 20 20 20) 1229 v0 (hN h)))) 20 20 20) 1231 v0 (hN (sR (nw (sR (nw (sR h 1228 s1 s0) 20 20 20) 1229 v0 (hN h)) 20 20 20) 1230 v0 (hN (sR (nw (sR h 1228 s1 s0) 20 20 20) 1229 v0 (hN h)))))) 20 20 20) Q))))) : WP d mX12_init 195 [some (.ref v0)] [.ref s0, .ref s1] h Q := by
  obtain ⟨g1, k⟩ := k
  refine w_putR dX12_init_195 f_12_90 t_12_28 (pf_in rfl rfl) g1 ?_
  refine w_aload_n dX12_init_198 rfl ?_
  refine w_bipush dX12_init_199 i2_20 ?_
  refine w_nar_int (m := 20) dX12_init_201 (by decide) (by decide) (by decide) ?_
  obtain ⟨g2, k⟩ := k
  refine w_putR dX12_init_203 f_12_93 t_12_29 (pf_in rfl rfl) g2 ?_
  refine w_aload_n dX12_init_206 rfl ?_
  refine w_bipush dX12_init_207 i2_20 ?_
  refine w_nar_int (m := 20) dX12_init_209 (by decide) (by decide) (by decide) ?_
  obtain ⟨g3, k⟩ := k
  refine w_putR dX12_init_211 f_12_96 t_12_30 (pf_in rfl rfl) g3 ?_
  refine w_aload_n dX12_init_214 rfl ?_
  refine w_bipush dX12_init_215 i2_20 ?_
  refine w_nar_int (m := 20) dX12_init_217 (by decide) (by decide) (by decide) ?_
  obtain ⟨g4, k⟩ := k
  refine w_putR dX12_init_219 f_12_99 t_12_31 (pf_in rfl rfl) g4 ?_
  refine w_aload_n dX12_init_222 rfl ?_
  refine w_bipush dX12_init_223 i2_20 ?_
  refine w_nar_int (m := 20) dX12_init_225 (by decide) (by decide) (by decide) ?_
  exact k
theorem bX12_init_227 {d : Nat} {h : HP} {Q : Out → HP → Prop} {v0 : Nat} {s0 : Nat} {s1 : Nat} (k : (hK h s1 = 12) ∧ ((hK (nw (sR h 1232 s1 s0) 20 20 20) v0 = 12) ∧ ((hK (nw (sR (nw (sR h 1232 s1 s0) 20 20 20) 1233 v0 (hN h)) 20 20 20) v0 = 12) ∧ ((hK (nw (sR (nw (sR (nw (sR h 1232 s1 s0) 20 20 20) 1233 v0 (hN h)) 20 20 20) 1234 v0 (hN (sR (nw (sR h 1232 s1 s0) 20 20 20) 1233 v0 (hN h)))) 21 20 20) v0 = 12) ∧ (WP d mX12_init 259 [some (.ref v0)] [.ref (hN (sR (nw (sR (nw (sR (nw (sR h 1232 s1 s0) 20 20 20) 1233 v0 (hN h)) 20 20 20) 1234 v0 (hN (sR (nw (sR h 1232 s1 s0) 20 20 20) 1233 v0 (hN h)))) 21 20 20) 1235 v0 (hN (sR (nw (sR (nw (sR h 1232 s1 s0) 20 20 20) 1233 v0 (hN h)) 20 20 20) 1234 v0 (hN (sR (nw (sR h 1232 s1 s0) 20 20 20) 1233 v0 (hN h))))))), .ref v0] (nw (sR (nw (sR (nw (sR (nw (sR h 1232 s1 s0) 20 20 20) 1233 v0 (hN h)) 20 20 20) 1234 v0 (hN (sR (nw (sR h 1232 s1 s0) 20 20 20) 1233 v0 (hN h)))) 21 20 20) 1235 v0 (hN (sR (nw (sR (nw (sR h 1232 s1 s0) 20 20 20) 1233 v0 (hN h)) 20 20 20) 1234 v0 (hN (sR (nw (sR h 1232 s1 s0) 20 20 20) 1233 v0 (hN h)))))) 20 20 20) Q))))) : WP d mX12_init 227 [some (.ref v0)] [.ref s0, .ref s1] h Q := by
  obtain ⟨g1, k⟩ := k
  refine w_putR dX12_init_227 f_12_102 t_12_32 (pf_in rfl rfl) g1 ?_
  refine w_aload_n dX12_init_230 rfl ?_
  refine w_bipush dX12_init_231 i2_20 ?_
  refine w_nar_int (m := 20) dX12_init_233 (by decide) (by decide) (by decide) ?_
  obtain ⟨g2, k⟩ := k
  refine w_putR dX12_init_235 f_12_105 t_12_33 (pf_in rfl rfl) g2 ?_
  refine w_aload_n dX12_init_238 rfl ?_
  refine w_bipush dX12_init_239 i2_20 ?_
  refine w_nar_int (m := 20) dX12_init_241 (by decide) (by decide) (by decide) ?_
  obtain ⟨g3, k⟩ := k
  refine w_putR dX12_init_243 f_12_108 t_12_34 (pf_in rfl rfl) g3 ?_
  refine w_aload_n dX12_init_246 rfl ?_
  refine w_bipush dX12_init_247 i2_20 ?_
  refine w_nar_boolean (m := 20) dX12_init_249 (by decide) (by decide) (by decide) ?_
  obtain ⟨g4, k⟩ := k
  refine w_putR dX12_init_251 f_12_111 t_12_35 (pf_in rfl rfl) g4 ?_
  refine w_aload_n dX12_init_254 rfl ?_
  refine w_bipush dX12_init_255 i2_20 ?_
  refine w_nar_int (m := 20) dX12_init_257 (by decide) (by decide) (by decide) ?_
  exact k
theorem bX12_init_259 {d : Nat} {h : HP} {Q : Out → HP → Prop} {v0 : Nat} {s0 : Nat} {s1 : Nat} (k : (hK h s1 = 12) ∧ ((hK (nw (sR h 1236 s1 s0) 20 1440 1440) v0 = 12) ∧ ((hK (nw (sR (nw (sR h 1236 s1 s0) 20 1440 1440) 1237 v0 (hN h)) 22 60 60) v0 = 12) ∧ ((hK (nw (sR (nw (sR (nw (sR h 1236 s1 s0) 20 1440 1440) 1237 v0 (hN h)) 22 60 60) 1238 v0 (hN (sR (nw (sR h 1236 s1 s0) 20 1440 1440) 1237 v0 (hN h)))) 21 14 14) v0 = 12) ∧ (WP d mX12_init 292 [some (.ref v0)] [.ref (hN (sR (nw (sR (nw (sR (nw (sR h 1236 s1 s0) 20 1440 1440) 1237 v0 (hN h)) 22 60 60) 1238 v0 (hN (sR (nw (sR h 1236 s1 s0) 20 1440 1440) 1237 v0 (hN h)))) 21 14 14) 1241 v0 (hN (sR (nw (sR (nw (sR h 1236 s1 s0) 20 1440 1440) 1237 v0 (hN h)) 22 60 60) 1238 v0 (hN (sR (nw (sR h 1236 s1 s0) 20 1440 1440) 1237 v0 (hN h))))))), .ref v0] (nw (sR (nw (sR (nw (sR (nw (sR h 1236 s1 s0) 20 1440 1440) 1237 v0 (hN h)) 22 60 60) 1238 v0 (hN (sR (nw (sR h 1236 s1 s0) 20 1440 1440) 1237 v0 (hN h)))) 21 14 14) 1241 v0 (hN (sR (nw (sR (nw (sR h 1236 s1 s0) 20 1440 1440) 1237 v0 (hN h)) 22 60 60) 1238 v0 (hN (sR (nw (sR h 1236 s1 s0) 20 1440 1440) 1237 v0 (hN h)))))) 20 14 14) Q))))) : WP d mX12_init 259 [some (.ref v0)] [.ref s0, .ref s1] h Q := by
  obtain ⟨g1, k⟩ := k
  refine w_putR dX12_init_259 f_12_114 t_12_36 (pf_in rfl rfl) g1 ?_
  refine w_aload_n dX12_init_262 rfl ?_
  refine w_sipush dX12_init_263 i3_1440 ?_
  refine w_nar_int (m := 1440) dX12_init_266 (by decide) (by decide) (by decide) ?_
  obtain ⟨g2, k⟩ := k
  refine w_putR dX12_init_268 f_12_117 t_12_37 (pf_in rfl rfl) g2 ?_
  refine w_aload_n dX12_init_271 rfl ?_
  refine w_bipush dX12_init_272 i2_60 ?_
  refine w_nar_float (m := 60) dX12_init_274 (by decide) (by decide) (by decide) ?_
  obtain ⟨g3, k⟩ := k
  refine w_putR dX12_init_276 f_12_120 t_12_38 (pf_in rfl rfl) g3 ?_
  refine w_aload_n dX12_init_279 rfl ?_
  refine w_bipush dX12_init_280 i2_14 ?_
  refine w_nar_boolean (m := 14) dX12_init_282 (by decide) (by decide) (by decide) ?_
  obtain ⟨g4, k⟩ := k
  refine w_putR dX12_init_284 f_12_123 t_12_41 (pf_in rfl rfl) g4 ?_
  refine w_aload_n dX12_init_287 rfl ?_
  refine w_bipush dX12_init_288 i2_14 ?_
  refine w_nar_int (m := 14) dX12_init_290 (by decide) (by decide) (by decide) ?_
  exact k
theorem bX12_init_292 {d : Nat} {h : HP} {Q : Out → HP → Prop} {v0 : Nat} {s0 : Nat} {s1 : Nat} (k : (hK h s1 = 12) ∧ ((hK (nw (sR h 1242 s1 s0) 20 14 14) v0 = 12) ∧ ((hK (nw (sR (nw (sR h 1242 s1 s0) 20 14 14) 1243 v0 (hN h)) 20 14 14) v0 = 12) ∧ ((hK (nw (sR (nw (sR (nw (sR h 1242 s1 s0) 20 14 14) 1243 v0 (hN h)) 20 14 14) 1244 v0 (hN (sR (nw (sR h 1242 s1 s0) 20 14 14) 1243 v0 (hN h)))) 20 14 14) v0 = 12) ∧ (WP d mX12_init 324 [some (.ref v0)] [.ref (hN (sR (nw (sR (nw (sR (nw (sR h 1242 s1 s0) 20 14 14) 1243 v0 (hN h)) 20 14 14) 1244 v0 (hN (sR (nw (sR h 1242 s1 s0) 20 14 14) 1243 v0 (hN h)))) 20 14 14) 1245 v0 (hN (sR (nw (sR (nw (sR h 1242 s1 s0) 20 14 14) 1243 v0 (hN h)) 20 14 14) 1244 v0 (hN (sR (nw (sR h 1242 s1 s0) 20 14 14) 1243 v0 (hN h))))))), .ref v0] (nw (sR (nw (sR (nw (sR (nw (sR h 1242 s1 s0) 20 14 14) 1243 v0 (hN h)) 20 14 14) 1244 v0 (hN (sR (nw (sR h 1242 s1 s0) 20 14 14) 1243 v0 (hN h)))) 20 14 14) 1245 v0 (hN (sR (nw (sR (nw (sR h 1242 s1 s0) 20 14 14) 1243 v0 (hN h)) 20 14 14) 1244 v0 (hN (sR (nw (sR h 1242 s1 s0) 20 14 14) 1243 v0 (hN h)))))) 20 14 14) Q))))) : WP d mX12_init 292 [some (.ref v0)] [.ref s0, .ref s1] h Q := by
  obtain ⟨g1, k⟩ := k
  refine w_putR dX12_init_292 f_12_126 t_12_42 (pf_in rfl rfl) g1 ?_
  refine w_aload_n dX12_init_295 rfl ?_
  refine w_bipush dX12_init_296 i2_14 ?_
  refine w_nar_int (m := 14) dX12_init_298 (by decide) (by decide) (by decide) ?_
  obtain ⟨g2, k⟩ := k
  refine w_putR dX12_init_300 f_12_129 t_12_43 (pf_in rfl rfl) g2 ?_
  refine w_aload_n dX12_init_303 rfl ?_
  refine w_bipush dX12_init_304 i2_14 ?_
  refine w_nar_int (m := 14) dX12_init_306 (by decide) (by decide) (by decide) ?_
  obtain ⟨g3, k⟩ := k
  refine w_putR dX12_init_308 f_12_132 t_12_44 (pf_in rfl rfl) g3 ?_
  refine w_aload_n dX12_init_311 rfl ?_
  refine w_bipush dX12_init_312 i2_14 ?_
  refine w_nar_int (m := 14) dX12_init_314 (by decide) (by decide) (by decide) ?_
  obtain ⟨g4, k⟩ := k
  refine w_putR dX12_init_316 f_12_135 t_12_45 (pf_in rfl rfl) g4 ?_
  refine w_aload_n dX12_init_319 rfl ?_
  refine w_bipush dX12_init_320 i2_14 ?_
  refine w_nar_int (m := 14) dX12_init_322 (by decide) (by decide) (by decide) ?_
  exact k
theorem bX12_init_324 {d : Nat} {h : HP} {Q : Out → HP → Prop} {v0 : Nat} {s0 : Nat} {s1 : Nat} (k : (hK h s1 = 12) ∧ ((hK (nw (sR h 1246 s1 s0) 20 16384 16384) v0 = 12) ∧ ((hK (nw (sR (nw (sR h 1246 s1 s0) 20 16384 16384) 1248 v0 (hN h)) 20 24 24) v0 = 12) ∧ ((1 < v0) ∧ ((hK (sR (nw (sR (nw (sR h 1246 s1 s0) 20 16384 16384) 1248 v0 (hN h)) 20 24 24) 1249 v0 (hN (sR (nw (sR h 1246 s1 s0) 20 16384 16384) 1248 v0 (hN h)))) v0 = 12) ∧ (WP d mX12_begins 0 [some (.ref v0), some (.int (3 : Int32)), none] [] (sR (nw (sR (nw (sR h 1246 s1 s0) 20 16384 16384) 1248 v0 (hN h)) 20 24 24) 1249 v0 (hN (sR (nw (sR h 1246 s1 s0) 20 16384 16384) 1248 v0 (hN h)))) (KK d mX12_init mX12_begins 346 [some (.ref v0)] [] Q))))))) : WP (d + 1) mX12_init 324 [some (.ref v0)] [.ref s0, .ref s1] h Q := by
  obtain ⟨g1, k⟩ := k
  refine w_putR dX12_init_324 f_12_138 t_12_46 (pf_in rfl rfl) g1 ?_
  refine w_aload_n dX12_init_327 rfl ?_
  refine w_sipush dX12_init_328 i3_16384 ?_
  refine w_nar_int (m := 16384) dX12_init_331 (by decide) (by decide) (by decide) ?_
  obtain ⟨g2, k⟩ := k
  refine w_putR dX12_init_333 f_12_141 t_12_48 (pf_in rfl rfl) g2 ?_
  refine w_aload_n dX12_init_336 rfl ?_
  refine w_bipush dX12_init_337 i2_24 ?_
  refine w_nar_int (m := 24) dX12_init_339 (by decide) (by decide) (by decide) ?_
  obtain ⟨g3, k⟩ := k
  refine w_putR dX12_init_341 f_12_144 t_12_49 (pf_in rfl rfl) g3 ?_
  refine w_aload_n dX12_init_344 rfl ?_
  refine w_iconst dX12_init_345 i1_3 ?_
  obtain ⟨g4, k⟩ := k
  obtain ⟨g5, k⟩ := k
  exact w_virt (as1 := [.int (3 : Int32), .ref v0]) (as2 := [.ref v0, .int (3 : Int32)]) (rest := []) (lo2 := [some (.ref v0), some (.int (3 : Int32)), none]) dX12_init_346 c_12_147 rfl rfl rfl (Nat.le_of_ble_eq_true rfl) (Nat.le_of_ble_eq_true rfl) rfl (Nat.le_of_ble_eq_true rfl) rfl rfl g4 g5 k
theorem bX12_init_349 {d : Nat} {h : HP} {Q : Out → HP → Prop} {v0 : Nat} (k : Q (.inl none) h) : WP d mX12_init 349 [some (.ref v0)] [] h Q := by
  exact w_return dX12_init_349 rfl k
theorem bX12_thrown_0 {d : Nat} {h : HP} {Q : Out → HP → Prop} {v0 : Nat} (k : (hK h v0 = 12) ∧ (Q (.inl (some (.int (hI h 1250 v0)))) h)) : WP d mX12_thrown 0 [some (.ref v0)] [] h Q := by
  refine w_aload_n dX12_thrown_0 rfl ?_
  obtain ⟨g1, k⟩ := k
  refine w_getI dX12_thrown_1 f_12_151 t_12_50 g1 ?_
  exact w_ireturn dX12_thrown_4 rfl k
theorem bX12_in_0 {d : Nat} {h : HP} {Q : Out → HP → Prop} {v0 : Int32} {v1 : Int32} {v2 : Int32} (k : ((v0 < v1) → Q (.inl (some (.int (0 : Int32)))) h) ∧ ((¬ (v0 < v1)) → ((v2 < v0) → Q (.inl (some (.int (0 : Int32)))) h) ∧ ((¬ (v2 < v0)) → Q (.inl (some (.int (1 : Int32)))) h))) : WP d mX12_in 0 [some (.int v0), some (.int v1), some (.int v2)] [] h Q := by
  refine w_iload_n dX12_in_0 rfl ?_
  refine w_iload_n dX12_in_1 rfl ?_
  refine w_ic_lt (pc' := 14) dX12_in_2 rfl rfl ⟨fun c => ?_, fun c => ?_⟩
  · replace k := k.1 c
    refine w_iconst dX12_in_14 i1_0 ?_
    exact w_ireturn dX12_in_15 rfl k
  · replace k := k.2 c
    refine w_iload_n dX12_in_5 rfl ?_
    refine w_iload_n dX12_in_6 rfl ?_
    refine w_ic_gt (pc' := 14) dX12_in_7 rfl rfl ⟨fun c => ?_, fun c => ?_⟩
    · replace k := k.1 c
      refine w_iconst dX12_in_14 i1_0 ?_
      exact w_ireturn dX12_in_15 rfl k
    · replace k := k.2 c
      refine w_iconst dX12_in_10 i1_1 ?_
      refine w_goto (pc' := 15) dX12_in_11 rfl rfl ?_
      exact w_ireturn dX12_in_15 rfl k
theorem bX12_goes_0 {d : Nat} {h : HP} {Q : Out → HP → Prop} {v0 : Nat} {v1 : Int32} {v2 : Int32} {v3 : Int32} (k : ((¬ v1 = 0) → ((¬ v2 = 0) → ((v3 = 0) → (hK h v0 = 12) ∧ (((¬ (hI (sI h 1250 v0 (3 : Int32)) 1250 v0) = 0) → Q (.inl (some (.int (0 : Int32)))) (sI h 1250 v0 (3 : Int32))) ∧ ((¬ (¬ (hI (sI h 1250 v0 (3 : Int32)) 1250 v0) = 0)) → Q (.inl (some (.int (1 : Int32)))) (sI h 1250 v0 (3 : Int32))))) ∧ ((¬ (v3 = 0)) → (hK h v0 = 12) ∧ (((¬ (hI (sI h 1250 v0 (0 : Int32)) 1250 v0) = 0) → Q (.inl (some (.int (0 : Int32)))) (sI h 1250 v0 (0 : Int32))) ∧ ((¬ (¬ (hI (sI h 1250 v0 (0 : Int32)) 1250 v0) = 0)) → Q (.inl (some (.int (1 : Int32)))) (sI h 1250 v0 (0 : Int32)))))) ∧ ((¬ (¬ v2 = 0)) → (hK h v0 = 12) ∧ (((¬ (hI (sI h 1250 v0 (2 : Int32)) 1250 v0) = 0) → Q (.inl (some (.int (0 : Int32)))) (sI h 1250 v0 (2 : Int32))) ∧ ((¬ (¬ (hI (sI h 1250 v0 (2 : Int32)) 1250 v0) = 0)) → Q (.inl (some (.int (1 : Int32)))) (sI h 1250 v0 (2 : Int32)))))) ∧ ((¬ (¬ v1 = 0)) → (hK h v0 = 12) ∧ (((¬ (hI (sI h 1250 v0 (1 : Int32)) 1250 v0) = 0) → Q (.inl (some (.int (0 : Int32)))) (sI h 1250 v0 (1 : Int32))) ∧ ((¬ (¬ (hI (sI h 1250 v0 (1 : Int32)) 1250 v0) = 0)) → Q (.inl (some (.int (1 : Int32)))) (sI h 1250 v0 (1 : Int32)))))) : WP d mX12_goes 0 [some (.ref v0), some (.int v1), some (.int v2), some (.int v3)] [] h Q := by
  refine w_aload_n dX12_goes_0 rfl ?_
  refine w_iload_n dX12_goes_1 rfl ?_
  refine w_if_ne (pc' := 9) dX12_goes_2 rfl rfl ⟨fun c => ?_, fun c => ?_⟩
  · replace k := k.1 c
    refine w_iload_n dX12_goes_9 rfl ?_
    refine w_if_ne (pc' := 17) dX12_goes_10 rfl rfl ⟨fun c => ?_, fun c => ?_⟩
    · replace k := k.1 c
      refine w_iload_n dX12_goes_17 rfl ?_
      refine w_if_eq (pc' := 25) dX12_goes_18 rfl rfl ⟨fun c => ?_, fun c => ?_⟩
      · replace k := k.1 c
        refine w_iconst dX12_goes_25 i1_3 ?_
        obtain ⟨g1, k⟩ := k
        refine w_putI dX12_goes_26 f_12_151 t_12_50 (pf_nf n_12_50) g1 ?_
        refine w_aload_n dX12_goes_29 rfl ?_
        refine w_getI dX12_goes_30 f_12_151 t_12_50 g1 ?_
        refine w_if_ne (pc' := 40) dX12_goes_33 rfl rfl ⟨fun c => ?_, fun c => ?_⟩
        · replace k := k.1 c
          refine w_iconst dX12_goes_40 i1_0 ?_
          exact w_ireturn dX12_goes_41 rfl k
        · replace k := k.2 c
          refine w_iconst dX12_goes_36 i1_1 ?_
          refine w_goto (pc' := 41) dX12_goes_37 rfl rfl ?_
          exact w_ireturn dX12_goes_41 rfl k
      · replace k := k.2 c
        refine w_iconst dX12_goes_21 i1_0 ?_
        refine w_goto (pc' := 26) dX12_goes_22 rfl rfl ?_
        obtain ⟨g2, k⟩ := k
        refine w_putI dX12_goes_26 f_12_151 t_12_50 (pf_nf n_12_50) g2 ?_
        refine w_aload_n dX12_goes_29 rfl ?_
        refine w_getI dX12_goes_30 f_12_151 t_12_50 g2 ?_
        refine w_if_ne (pc' := 40) dX12_goes_33 rfl rfl ⟨fun c => ?_, fun c => ?_⟩
        · replace k := k.1 c
          refine w_iconst dX12_goes_40 i1_0 ?_
          exact w_ireturn dX12_goes_41 rfl k
        · replace k := k.2 c
          refine w_iconst dX12_goes_36 i1_1 ?_
          refine w_goto (pc' := 41) dX12_goes_37 rfl rfl ?_
          exact w_ireturn dX12_goes_41 rfl k
    · replace k := k.2 c
      refine w_iconst dX12_goes_13 i1_2 ?_
      refine w_goto (pc' := 26) dX12_goes_14 rfl rfl ?_
      obtain ⟨g3, k⟩ := k
      refine w_putI dX12_goes_26 f_12_151 t_12_50 (pf_nf n_12_50) g3 ?_
      refine w_aload_n dX12_goes_29 rfl ?_
      refine w_getI dX12_goes_30 f_12_151 t_12_50 g3 ?_
      refine w_if_ne (pc' := 40) dX12_goes_33 rfl rfl ⟨fun c => ?_, fun c => ?_⟩
      · replace k := k.1 c
        refine w_iconst dX12_goes_40 i1_0 ?_
        exact w_ireturn dX12_goes_41 rfl k
      · replace k := k.2 c
        refine w_iconst dX12_goes_36 i1_1 ?_
        refine w_goto (pc' := 41) dX12_goes_37 rfl rfl ?_
        exact w_ireturn dX12_goes_41 rfl k
  · replace k := k.2 c
    refine w_iconst dX12_goes_5 i1_1 ?_
    refine w_goto (pc' := 26) dX12_goes_6 rfl rfl ?_
    obtain ⟨g4, k⟩ := k
    refine w_putI dX12_goes_26 f_12_151 t_12_50 (pf_nf n_12_50) g4 ?_
    refine w_aload_n dX12_goes_29 rfl ?_
    refine w_getI dX12_goes_30 f_12_151 t_12_50 g4 ?_
    refine w_if_ne (pc' := 40) dX12_goes_33 rfl rfl ⟨fun c => ?_, fun c => ?_⟩
    · replace k := k.1 c
      refine w_iconst dX12_goes_40 i1_0 ?_
      exact w_ireturn dX12_goes_41 rfl k
    · replace k := k.2 c
      refine w_iconst dX12_goes_36 i1_1 ?_
      refine w_goto (pc' := 41) dX12_goes_37 rfl rfl ?_
      exact w_ireturn dX12_goes_41 rfl k
theorem bX12_isMachine_0 {d : Nat} {h : HP} {Q : Out → HP → Prop} {v0 : Nat} {v1 : Int32} (k : (hK h v0 = 12) ∧ (WP d mX12_in 0 [some (.int v1), some (.int (0 : Int32)), some (.int ((hI h 1200 v0) - (1 : Int32)))] [] h (KK d mX12_isMachine mX12_in 8 [some (.ref v0), some (.int v1)] [] Q))) : WP (d + 1) mX12_isMachine 0 [some (.ref v0), some (.int v1)] [] h Q := by
  refine w_iload_n dX12_isMachine_0 rfl ?_
  refine w_iconst dX12_isMachine_1 i1_0 ?_
  refine w_aload_n dX12_isMachine_2 rfl ?_
  obtain ⟨g1, k⟩ := k
  refine w_getI dX12_isMachine_3 f_12_7 t_12_0 g1 ?_
  refine w_iconst dX12_isMachine_6 i1_1 ?_
  refine w_isub dX12_isMachine_7 ?_
  exact w_stat (as1 := [.int ((hI h 1200 v0) - (1 : Int32)), .int (0 : Int32), .int v1]) (as2 := [.int v1, .int (0 : Int32), .int ((hI h 1200 v0) - (1 : Int32))]) (rest := []) (lo2 := [some (.int v1), some (.int (0 : Int32)), some (.int ((hI h 1200 v0) - (1 : Int32)))]) dX12_isMachine_8 c_12_154 rfl rfl rfl (Nat.le_of_ble_eq_true rfl) (Nat.le_of_ble_eq_true rfl) rfl (Nat.le_of_ble_eq_true rfl) rfl k
theorem bX12_isMachine_11 {d : Nat} {h : HP} {Q : Out → HP → Prop} {v0 : Nat} {v1 : Int32} {s0 : Int32} (k : (isZ s0 = true) ∧ (Q (.inl (some (.int s0))) h)) : WP d mX12_isMachine 11 [some (.ref v0), some (.int v1)] [.int s0] h Q := by
  obtain ⟨g1, k⟩ := k
  exact w_ireturn dX12_isMachine_11 g1 k
theorem bX12_most_0 {d : Nat} {h : HP} {Q : Out → HP → Prop} {v0 : Nat} (k : (hK h v0 = 12) ∧ (Q (.inl (some (.int (((hI h 1200 v0) / (2 : Int32)) + (1 : Int32))))) h)) : WP d mX12_most 0 [some (.ref v0)] [] h Q := by
  refine w_aload_n dX12_most_0 rfl ?_
  obtain ⟨g1, k⟩ := k
  refine w_getI dX12_most_1 f_12_7 t_12_0 g1 ?_
  refine w_iconst dX12_most_4 i1_2 ?_
  refine w_idiv dX12_most_5 (by decide) ?_
  refine w_iconst dX12_most_6 i1_1 ?_
  refine w_iadd dX12_most_7 ?_
  exact w_ireturn dX12_most_8 rfl k
theorem bX12_bits_0 {d : Nat} {h : HP} {Q : Out → HP → Prop} {v0 : Int32} {u1 : Option Value} {u2 : Option Value} (k : WP d mX12_bits 4 [some (.int v0), some (.int (0 : Int32)), some (.int (0 : Int32))] [] h Q) : WP d mX12_bits 0 [some (.int v0), u1, u2] [] h Q := by
  refine w_iconst dX12_bits_0 i1_0 ?_
  refine w_istore_n (lo' := [some (.int v0), some (.int (0 : Int32)), u2]) dX12_bits_1 (ltQ rfl) rfl ?_
  refine w_iconst dX12_bits_2 i1_0 ?_
  refine w_istore_n (lo' := [some (.int v0), some (.int (0 : Int32)), some (.int (0 : Int32))]) dX12_bits_3 (ltQ rfl) rfl ?_
  exact k
theorem bX12_bits_4 {d : Nat} {h : HP} {Q : Out → HP → Prop} {v0 : Int32} {v1 : Int32} {v2 : Int32} (k : (((5 : Int32) ≤ v2) → Q (.inl (some (.int v1))) h) ∧ ((¬ ((5 : Int32) ≤ v2)) → WP d mX12_bits 4 [some (.int v0), some (.int (v1 + ((v0 >>> (v2 &&& 31)) &&& (1 : Int32)))), some (.int (v2 + (1 : Int32)))] [] h Q)) : WP d mX12_bits 4 [some (.int v0), some (.int v1), some (.int v2)] [] h Q := by
  refine w_iload_n dX12_bits_4 rfl ?_
  refine w_iconst dX12_bits_5 i1_5 ?_
  refine w_ic_ge (pc' := 23) dX12_bits_6 rfl rfl ⟨fun c => ?_, fun c => ?_⟩
  · replace k := k.1 c
    refine w_iload_n dX12_bits_23 rfl ?_
    exact w_ireturn dX12_bits_24 rfl k
  · replace k := k.2 c
    refine w_iload_n dX12_bits_9 rfl ?_
    refine w_iload_n dX12_bits_10 rfl ?_
    refine w_iload_n dX12_bits_11 rfl ?_
    refine w_ishr dX12_bits_12 ?_
    refine w_iconst dX12_bits_13 i1_1 ?_
    refine w_iand dX12_bits_14 ?_
    refine w_iadd dX12_bits_15 ?_
    refine w_istore_n (lo' := [some (.int v0), some (.int (v1 + ((v0 >>> (v2 &&& 31)) &&& (1 : Int32)))), some (.int v2)]) dX12_bits_16 (ltQ rfl) rfl ?_
    refine w_iinc (lo' := [some (.int v0), some (.int (v1 + ((v0 >>> (v2 &&& 31)) &&& (1 : Int32)))), some (.int (v2 + (1 : Int32)))]) dX12_bits_17 rfl i1_1 rfl ?_
    refine w_goto (pc' := 4) dX12_bits_20 rfl rfl ?_
    exact k
theorem bX12_begins_0 {d : Nat} {h : HP} {Q : Out → HP → Prop} {v0 : Nat} {v1 : Int32} {u2 : Option Value} (k : (hK h v0 = 12) ∧ (WP d mX12_begins 38 [some (.ref v0), some (.int v1), some (.int (0 : Int32))] [] (sI (sI (sI (sF (sF (sF (sI h 1200 v0 v1) 1201 v0 FP.fconst0) 1202 v0 (1092616192 : UInt32)) 1203 v0 FP.fconst0) 1204 v0 (0 : Int32)) 1239 v0 (0 : Int32)) 1247 v0 (0 : Int32)) Q)) : WP d mX12_begins 0 [some (.ref v0), some (.int v1), u2] [] h Q := by
  refine w_aload_n dX12_begins_0 rfl ?_
  refine w_iload_n dX12_begins_1 rfl ?_
  obtain ⟨g1, k⟩ := k
  refine w_putI dX12_begins_2 f_12_7 t_12_0 (pf_nf n_12_0) g1 ?_
  refine w_aload_n dX12_begins_5 rfl ?_
  refine w_fconst0 dX12_begins_6 ?_
  refine w_putF dX12_begins_7 f_12_158 t_12_1 (pf_nf n_12_1) g1 ?_
  refine w_aload_n dX12_begins_10 rfl ?_
  refine w_ldc dX12_begins_11 l_12_13 ?_
  refine w_putF dX12_begins_13 f_12_14 t_12_2 (pf_nf n_12_2) g1 ?_
  refine w_aload_n dX12_begins_16 rfl ?_
  refine w_fconst0 dX12_begins_17 ?_
  refine w_putF dX12_begins_18 f_12_161 t_12_3 (pf_nf n_12_3) g1 ?_
  refine w_aload_n dX12_begins_21 rfl ?_
  refine w_iconst dX12_begins_22 i1_0 ?_
  refine w_putI dX12_begins_23 f_12_164 t_12_4 (pf_nf n_12_4) g1 ?_
  refine w_aload_n dX12_begins_26 rfl ?_
  refine w_iconst dX12_begins_27 i1_0 ?_
  refine w_putI dX12_begins_28 f_12_167 t_12_39 (pf_nf n_12_39) g1 ?_
  refine w_aload_n dX12_begins_31 rfl ?_
  refine w_iconst dX12_begins_32 i1_0 ?_
  refine w_putI dX12_begins_33 f_12_170 t_12_47 (pf_nf n_12_47) g1 ?_
  refine w_iconst dX12_begins_36 i1_0 ?_
  refine w_istore_n (lo' := [some (.ref v0), some (.int v1), some (.int (0 : Int32))]) dX12_begins_37 (ltQ rfl) rfl ?_
  exact k
theorem bX12_begins_38 {d : Nat} {h : HP} {Q : Out → HP → Prop} {v0 : Nat} {v1 : Int32} {v2 : Int32} (k : (((5 : Int32) ≤ v2) → WP d mX12_begins 128 [some (.ref v0), some (.int v1), some (.int (0 : Int32))] [] h Q) ∧ ((¬ ((5 : Int32) ≤ v2)) → (hK h v0 = 12) ∧ ((hK h (hR h 1205 v0) = 21) ∧ ((inA h (hR h 1205 v0) v2 = true) ∧ ((hK h (hR h 1207 v0) = 22) ∧ ((inA h (hR h 1207 v0) v2 = true) ∧ ((hK h (hR h 1208 v0) = 22) ∧ ((inA h (hR h 1208 v0) v2 = true) ∧ ((hK h (hR h 1209 v0) = 20) ∧ ((inA h (hR h 1209 v0) v2 = true) ∧ ((hK h (hR h 1210 v0) = 20) ∧ ((inA h (hR h 1210 v0) v2 = true) ∧ ((hK h (hR h 1211 v0) = 20) ∧ ((inA h (hR h 1211 v0) v2 = true) ∧ ((hK h (hR h 1212 v0) = 20) ∧ ((inA h (hR h 1212 v0) v2 = true) ∧ ((hK h (hR h 1213 v0) = 20) ∧ ((inA h (hR h 1213 v0) v2 = true) ∧ ((hK h (hR h 1218 v0) = 20) ∧ ((inA h (hR h 1218 v0) v2 = true) ∧ ((hK h (hR h 1223 v0) = 21) ∧ ((inA h (hR h 1223 v0) v2 = true) ∧ (WP d mX12_begins 113 [some (.ref v0), some (.int v1), some (.int v2)] [] (sAI (sAI (sAI (sAI (sAI (sAI (sAI (sAF (sAF (sAI h (hR h 1205 v0) (v2).toNatClampNeg (1 : Int32)) (hR h 1207 v0) (v2).toNatClampNeg FP.fconst0) (hR h 1208 v0) (v2).toNatClampNeg FP.fconst1) (hR h 1209 v0) (v2).toNatClampNeg (0 : Int32)) (hR h 1210 v0) (v2).toNatClampNeg (-1 : Int32)) (hR h 1211 v0) (v2).toNatClampNeg (0 : Int32)) (hR h 1212 v0) (v2).toNatClampNeg (0 : Int32)) (hR h 1213 v0) (v2).toNatClampNeg (0 : Int32)) (hR h 1218 v0) (v2).toNatClampNeg (0 : Int32)) (hR h 1223 v0) (v2).toNatClampNeg (0 : Int32)) Q))))))))))))))))))))))) : WP d mX12_begins 38 [some (.ref v0), some (.int v1), some (.int v2)] [] h Q := by
  refine w_iload_n dX12_begins_38 rfl ?_
  refine w_iconst dX12_begins_39 i1_5 ?_
  refine w_ic_ge (pc' := 126) dX12_begins_40 rfl rfl ⟨fun c => ?_, fun c => ?_⟩
  · replace k := k.1 c
    refine w_iconst dX12_begins_126 i1_0 ?_
    refine w_istore_n (lo' := [some (.ref v0), some (.int v1), some (.int (0 : Int32))]) dX12_begins_127 (ltQ rfl) rfl ?_
    exact k
  · replace k := k.2 c
    refine w_aload_n dX12_begins_43 rfl ?_
    obtain ⟨g1, k⟩ := k
    refine w_getR dX12_begins_44 f_12_18 t_12_5 g1 ?_
    refine w_iload_n dX12_begins_47 rfl ?_
    refine w_iconst dX12_begins_48 i1_1 ?_
    obtain ⟨g2, k⟩ := k
    obtain ⟨g3, k⟩ := k
    refine w_bastore dX12_begins_49 g2 g3 rfl ?_
    refine w_aload_n dX12_begins_50 rfl ?_
    refine w_getR dX12_begins_51 f_12_25 t_12_7 g1 ?_
    refine w_iload_n dX12_begins_54 rfl ?_
    refine w_fconst0 dX12_begins_55 ?_
    obtain ⟨g4, k⟩ := k
    obtain ⟨g5, k⟩ := k
    refine w_fastore dX12_begins_56 g4 g5 ?_
    refine w_aload_n dX12_begins_57 rfl ?_
    refine w_getR dX12_begins_58 f_12_29 t_12_8 g1 ?_
    refine w_iload_n dX12_begins_61 rfl ?_
    refine w_fconst1 dX12_begins_62 ?_
    obtain ⟨g6, k⟩ := k
    obtain ⟨g7, k⟩ := k
    refine w_fastore dX12_begins_63 g6 g7 ?_
    refine w_aload_n dX12_begins_64 rfl ?_
    refine w_getR dX12_begins_65 f_12_32 t_12_9 g1 ?_
    refine w_iload_n dX12_begins_68 rfl ?_
    refine w_iconst dX12_begins_69 i1_0 ?_
    obtain ⟨g8, k⟩ := k
    obtain ⟨g9, k⟩ := k
    refine w_iastore dX12_begins_70 g8 g9 ?_
    refine w_aload_n dX12_begins_71 rfl ?_
    refine w_getR dX12_begins_72 f_12_36 t_12_10 g1 ?_
    refine w_iload_n dX12_begins_75 rfl ?_
    refine w_iconst dX12_begins_76 i1_m1 ?_
    obtain ⟨g10, k⟩ := k
    obtain ⟨g11, k⟩ := k
    refine w_iastore dX12_begins_77 g10 g11 ?_
    refine w_aload_n dX12_begins_78 rfl ?_
    refine w_getR dX12_begins_79 f_12_39 t_12_11 g1 ?_
    refine w_iload_n dX12_begins_82 rfl ?_
    refine w_iconst dX12_begins_83 i1_0 ?_
    obtain ⟨g12, k⟩ := k
    obtain ⟨g13, k⟩ := k
    refine w_iastore dX12_begins_84 g12 g13 ?_
    refine w_aload_n dX12_begins_85 rfl ?_
    refine w_getR dX12_begins_86 f_12_42 t_12_12 g1 ?_
    refine w_iload_n dX12_begins_89 rfl ?_
    refine w_iconst dX12_begins_90 i1_0 ?_
    obtain ⟨g14, k⟩ := k
    obtain ⟨g15, k⟩ := k
    refine w_iastore dX12_begins_91 g14 g15 ?_
    refine w_aload_n dX12_begins_92 rfl ?_
    refine w_getR dX12_begins_93 f_12_45 t_12_13 g1 ?_
    refine w_iload_n dX12_begins_96 rfl ?_
    refine w_iconst dX12_begins_97 i1_0 ?_
    obtain ⟨g16, k⟩ := k
    obtain ⟨g17, k⟩ := k
    refine w_iastore dX12_begins_98 g16 g17 ?_
    refine w_aload_n dX12_begins_99 rfl ?_
    refine w_getR dX12_begins_100 f_12_60 t_12_18 g1 ?_
    refine w_iload_n dX12_begins_103 rfl ?_
    refine w_iconst dX12_begins_104 i1_0 ?_
    obtain ⟨g18, k⟩ := k
    obtain ⟨g19, k⟩ := k
    refine w_iastore dX12_begins_105 g18 g19 ?_
    refine w_aload_n dX12_begins_106 rfl ?_
    refine w_getR dX12_begins_107 f_12_75 t_12_23 g1 ?_
    refine w_iload_n dX12_begins_110 rfl ?_
    refine w_iconst dX12_begins_111 i1_0 ?_
    obtain ⟨g20, k⟩ := k
    obtain ⟨g21, k⟩ := k
    refine w_bastore dX12_begins_112 g20 g21 rfl ?_
    exact k
theorem bX12_begins_113 {d : Nat} {h : HP} {Q : Out → HP → Prop} {v0 : Nat} {v1 : Int32} {v2 : Int32} (k : (hK h v0 = 12) ∧ ((hK h (hR h 1225 v0) = 20) ∧ ((inA h (hR h 1225 v0) v2 = true) ∧ (WP d mX12_begins 38 [some (.ref v0), some (.int v1), some (.int (v2 + (1 : Int32)))] [] (sAI h (hR h 1225 v0) (v2).toNatClampNeg (-1 : Int32)) Q)))) : WP d mX12_begins 113 [some (.ref v0), some (.int v1), some (.int v2)] [] h Q := by
  refine w_aload_n dX12_begins_113 rfl ?_
  obtain ⟨g1, k⟩ := k
  refine w_getR dX12_begins_114 f_12_81 t_12_25 g1 ?_
  refine w_iload_n dX12_begins_117 rfl ?_
  refine w_iconst dX12_begins_118 i1_m1 ?_
  obtain ⟨g2, k⟩ := k
  obtain ⟨g3, k⟩ := k
  refine w_iastore dX12_begins_119 g2 g3 ?_
  refine w_iinc (lo' := [some (.ref v0), some (.int v1), some (.int (v2 + (1 : Int32)))]) dX12_begins_120 rfl i1_1 rfl ?_
  refine w_goto (pc' := 38) dX12_begins_123 rfl rfl ?_
  exact k
theorem bX12_begins_128 {d : Nat} {h : HP} {Q : Out → HP → Prop} {v0 : Nat} {v1 : Int32} {v2 : Int32} (k : (((25 : Int32) ≤ v2) → WP d mX12_begins 149 [some (.ref v0), some (.int v1), some (.int (0 : Int32))] [] h Q) ∧ ((¬ ((25 : Int32) ≤ v2)) → (hK h v0 = 12) ∧ ((hK h (hR h 1206 v0) = 21) ∧ ((inA h (hR h 1206 v0) v2 = true) ∧ (WP d mX12_begins 128 [some (.ref v0), some (.int v1), some (.int (v2 + (1 : Int32)))] [] (sAI h (hR h 1206 v0) (v2).toNatClampNeg (0 : Int32)) Q))))) : WP d mX12_begins 128 [some (.ref v0), some (.int v1), some (.int v2)] [] h Q := by
  refine w_iload_n dX12_begins_128 rfl ?_
  refine w_bipush dX12_begins_129 i2_25 ?_
  refine w_ic_ge (pc' := 147) dX12_begins_131 rfl rfl ⟨fun c => ?_, fun c => ?_⟩
  · replace k := k.1 c
    refine w_iconst dX12_begins_147 i1_0 ?_
    refine w_istore_n (lo' := [some (.ref v0), some (.int v1), some (.int (0 : Int32))]) dX12_begins_148 (ltQ rfl) rfl ?_
    exact k
  · replace k := k.2 c
    refine w_aload_n dX12_begins_134 rfl ?_
    obtain ⟨g1, k⟩ := k
    refine w_getR dX12_begins_135 f_12_22 t_12_6 g1 ?_
    refine w_iload_n dX12_begins_138 rfl ?_
    refine w_iconst dX12_begins_139 i1_0 ?_
    obtain ⟨g2, k⟩ := k
    obtain ⟨g3, k⟩ := k
    refine w_bastore dX12_begins_140 g2 g3 rfl ?_
    refine w_iinc (lo' := [some (.ref v0), some (.int v1), some (.int (v2 + (1 : Int32)))]) dX12_begins_141 rfl i1_1 rfl ?_
    refine w_goto (pc' := 128) dX12_begins_144 rfl rfl ?_
    exact k
theorem bX12_begins_149 {d : Nat} {h : HP} {Q : Out → HP → Prop} {v0 : Nat} {v1 : Int32} {v2 : Int32} (k : (((20 : Int32) ≤ v2) → Q (.inl none) h) ∧ ((¬ ((20 : Int32) ≤ v2)) → (hK h v0 = 12) ∧ ((hK h (hR h 1227 v0) = 20) ∧ ((inA h (hR h 1227 v0) v2 = true) ∧ ((hK h (hR h 1228 v0) = 20) ∧ ((inA h (hR h 1228 v0) v2 = true) ∧ ((hK h (hR h 1229 v0) = 20) ∧ ((inA h (hR h 1229 v0) v2 = true) ∧ ((hK h (hR h 1230 v0) = 20) ∧ ((inA h (hR h 1230 v0) v2 = true) ∧ ((hK h (hR h 1231 v0) = 20) ∧ ((inA h (hR h 1231 v0) v2 = true) ∧ (WP d mX12_begins 149 [some (.ref v0), some (.int v1), some (.int (v2 + (1 : Int32)))] [] (sAI (sAI (sAI (sAI (sAI h (hR h 1227 v0) (v2).toNatClampNeg (-1 : Int32)) (hR h 1228 v0) (v2).toNatClampNeg (-1 : Int32)) (hR h 1229 v0) (v2).toNatClampNeg (-1 : Int32)) (hR h 1230 v0) (v2).toNatClampNeg (-1 : Int32)) (hR h 1231 v0) (v2).toNatClampNeg (-1 : Int32)) Q))))))))))))) : WP d mX12_begins 149 [some (.ref v0), some (.int v1), some (.int v2)] [] h Q := by
  refine w_iload_n dX12_begins_149 rfl ?_
  refine w_bipush dX12_begins_150 i2_20 ?_
  refine w_ic_ge (pc' := 196) dX12_begins_152 rfl rfl ⟨fun c => ?_, fun c => ?_⟩
  · replace k := k.1 c
    exact w_return dX12_begins_196 rfl k
  · replace k := k.2 c
    refine w_aload_n dX12_begins_155 rfl ?_
    obtain ⟨g1, k⟩ := k
    refine w_getR dX12_begins_156 f_12_87 t_12_27 g1 ?_
    refine w_iload_n dX12_begins_159 rfl ?_
    refine w_iconst dX12_begins_160 i1_m1 ?_
    obtain ⟨g2, k⟩ := k
    obtain ⟨g3, k⟩ := k
    refine w_iastore dX12_begins_161 g2 g3 ?_
    refine w_aload_n dX12_begins_162 rfl ?_
    refine w_getR dX12_begins_163 f_12_90 t_12_28 g1 ?_
    refine w_iload_n dX12_begins_166 rfl ?_
    refine w_iconst dX12_begins_167 i1_m1 ?_
    obtain ⟨g4, k⟩ := k
    obtain ⟨g5, k⟩ := k
    refine w_iastore dX12_begins_168 g4 g5 ?_
    refine w_aload_n dX12_begins_169 rfl ?_
    refine w_getR dX12_begins_170 f_12_93 t_12_29 g1 ?_
    refine w_iload_n dX12_begins_173 rfl ?_
    refine w_iconst dX12_begins_174 i1_m1 ?_
    obtain ⟨g6, k⟩ := k
    obtain ⟨g7, k⟩ := k
    refine w_iastore dX12_begins_175 g6 g7 ?_
    refine w_aload_n dX12_begins_176 rfl ?_
    refine w_getR dX12_begins_177 f_12_96 t_12_30 g1 ?_
    refine w_iload_n dX12_begins_180 rfl ?_
    refine w_iconst dX12_begins_181 i1_m1 ?_
    obtain ⟨g8, k⟩ := k
    obtain ⟨g9, k⟩ := k
    refine w_iastore dX12_begins_182 g8 g9 ?_
    refine w_aload_n dX12_begins_183 rfl ?_
    refine w_getR dX12_begins_184 f_12_99 t_12_31 g1 ?_
    refine w_iload_n dX12_begins_187 rfl ?_
    refine w_iconst dX12_begins_188 i1_m1 ?_
    obtain ⟨g10, k⟩ := k
    obtain ⟨g11, k⟩ := k
    refine w_iastore dX12_begins_189 g10 g11 ?_
    refine w_iinc (lo' := [some (.ref v0), some (.int v1), some (.int (v2 + (1 : Int32)))]) dX12_begins_190 rfl i1_1 rfl ?_
    refine w_goto (pc' := 149) dX12_begins_193 rfl rfl ?_
    exact k
theorem bX12_begin_0 {d : Nat} {h : HP} {Q : Out → HP → Prop} {v0 : Nat} {v1 : Int32} {u2 : Option Value} (k : ((v1 = (3 : Int32)) → (1 < v0) ∧ ((hK h v0 = 12) ∧ (WP d mX12_goes 0 [some (.ref v0), some (.int (1 : Int32)), some (.int (1 : Int32)), some (.int (1 : Int32))] [] h (KK d mX12_begin mX12_goes 18 [some (.ref v0), some (.int v1), u2] [] Q)))) ∧ ((¬ (v1 = (3 : Int32))) → ((¬ v1 = (5 : Int32)) → (1 < v0) ∧ ((hK h v0 = 12) ∧ (WP d mX12_goes 0 [some (.ref v0), some (.int (0 : Int32)), some (.int (1 : Int32)), some (.int (1 : Int32))] [] h (KK d mX12_begin mX12_goes 18 [some (.ref v0), some (.int v1), u2] [] Q)))) ∧ ((¬ (¬ v1 = (5 : Int32))) → (1 < v0) ∧ ((hK h v0 = 12) ∧ (WP d mX12_goes 0 [some (.ref v0), some (.int (1 : Int32)), some (.int (1 : Int32)), some (.int (1 : Int32))] [] h (KK d mX12_begin mX12_goes 18 [some (.ref v0), some (.int v1), u2] [] Q)))))) : WP (d + 1) mX12_begin 0 [some (.ref v0), some (.int v1), u2] [] h Q := by
  refine w_aload_n dX12_begin_0 rfl ?_
  refine w_iload_n dX12_begin_1 rfl ?_
  refine w_iconst dX12_begin_2 i1_3 ?_
  refine w_ic_eq (pc' := 11) dX12_begin_3 rfl rfl ⟨fun c => ?_, fun c => ?_⟩
  · replace k := k.1 c
    refine w_iconst dX12_begin_11 i1_1 ?_
    refine w_goto (pc' := 16) dX12_begin_12 rfl rfl ?_
    refine w_iconst dX12_begin_16 i1_1 ?_
    refine w_iconst dX12_begin_17 i1_1 ?_
    obtain ⟨g1, k⟩ := k
    obtain ⟨g2, k⟩ := k
    exact w_virt (as1 := [.int (1 : Int32), .int (1 : Int32), .int (1 : Int32), .ref v0]) (as2 := [.ref v0, .int (1 : Int32), .int (1 : Int32), .int (1 : Int32)]) (rest := []) (lo2 := [some (.ref v0), some (.int (1 : Int32)), some (.int (1 : Int32)), some (.int (1 : Int32))]) dX12_begin_18 c_12_173 rfl rfl rfl (Nat.le_of_ble_eq_true rfl) (Nat.le_of_ble_eq_true rfl) rfl (Nat.le_of_ble_eq_true rfl) rfl rfl g1 g2 k
  · replace k := k.2 c
    refine w_iload_n dX12_begin_6 rfl ?_
    refine w_iconst dX12_begin_7 i1_5 ?_
    refine w_ic_ne (pc' := 15) dX12_begin_8 rfl rfl ⟨fun c => ?_, fun c => ?_⟩
    · replace k := k.1 c
      refine w_iconst dX12_begin_15 i1_0 ?_
      refine w_iconst dX12_begin_16 i1_1 ?_
      refine w_iconst dX12_begin_17 i1_1 ?_
      obtain ⟨g3, k⟩ := k
      obtain ⟨g4, k⟩ := k
      exact w_virt (as1 := [.int (1 : Int32), .int (1 : Int32), .int (0 : Int32), .ref v0]) (as2 := [.ref v0, .int (0 : Int32), .int (1 : Int32), .int (1 : Int32)]) (rest := []) (lo2 := [some (.ref v0), some (.int (0 : Int32)), some (.int (1 : Int32)), some (.int (1 : Int32))]) dX12_begin_18 c_12_173 rfl rfl rfl (Nat.le_of_ble_eq_true rfl) (Nat.le_of_ble_eq_true rfl) rfl (Nat.le_of_ble_eq_true rfl) rfl rfl g3 g4 k
    · replace k := k.2 c
      refine w_iconst dX12_begin_11 i1_1 ?_
      refine w_goto (pc' := 16) dX12_begin_12 rfl rfl ?_
      refine w_iconst dX12_begin_16 i1_1 ?_
      refine w_iconst dX12_begin_17 i1_1 ?_
      obtain ⟨g5, k⟩ := k
      obtain ⟨g6, k⟩ := k
      exact w_virt (as1 := [.int (1 : Int32), .int (1 : Int32), .int (1 : Int32), .ref v0]) (as2 := [.ref v0, .int (1 : Int32), .int (1 : Int32), .int (1 : Int32)]) (rest := []) (lo2 := [some (.ref v0), some (.int (1 : Int32)), some (.int (1 : Int32)), some (.int (1 : Int32))]) dX12_begin_18 c_12_173 rfl rfl rfl (Nat.le_of_ble_eq_true rfl) (Nat.le_of_ble_eq_true rfl) rfl (Nat.le_of_ble_eq_true rfl) rfl rfl g5 g6 k
theorem bX12_begin_21 {d : Nat} {h : HP} {Q : Out → HP → Prop} {v0 : Nat} {v1 : Int32} {u2 : Option Value} {s0 : Int32} (k : ((¬ s0 = 0) → (hK h v0 = 12) ∧ ((1 < v0) ∧ (WP d mX12_begins 0 [some (.ref v0), some (.int v1), none] [] h (KK d mX12_begin mX12_begins 33 [some (.ref v0), some (.int v1), some (.int (hI h 1200 v0))] [] Q)))) ∧ ((¬ (¬ s0 = 0)) → Q (.inl (some (.int (0 : Int32)))) h)) : WP (d + 1) mX12_begin 21 [some (.ref v0), some (.int v1), u2] [.int s0] h Q := by
  refine w_if_ne (pc' := 26) dX12_begin_21 rfl rfl ⟨fun c => ?_, fun c => ?_⟩
  · replace k := k.1 c
    refine w_aload_n dX12_begin_26 rfl ?_
    obtain ⟨g1, k⟩ := k
    refine w_getI dX12_begin_27 f_12_7 t_12_0 g1 ?_
    refine w_istore_n (lo' := [some (.ref v0), some (.int v1), some (.int (hI h 1200 v0))]) dX12_begin_30 (ltQ rfl) rfl ?_
    refine w_aload_n dX12_begin_31 rfl ?_
    refine w_iload_n dX12_begin_32 rfl ?_
    obtain ⟨g2, k⟩ := k
    exact w_virt (as1 := [.int v1, .ref v0]) (as2 := [.ref v0, .int v1]) (rest := []) (lo2 := [some (.ref v0), some (.int v1), none]) dX12_begin_33 c_12_147 rfl rfl rfl (Nat.le_of_ble_eq_true rfl) (Nat.le_of_ble_eq_true rfl) rfl (Nat.le_of_ble_eq_true rfl) rfl rfl g2 g1 k
  · replace k := k.2 c
    refine w_iconst dX12_begin_24 i1_0 ?_
    exact w_ireturn dX12_begin_25 rfl k
theorem bX12_begin_36 {d : Nat} {h : HP} {Q : Out → HP → Prop} {v0 : Nat} {v1 : Int32} {v2 : Int32} (k : Q (.inl (some (.int v2))) h) : WP d mX12_begin 36 [some (.ref v0), some (.int v1), some (.int v2)] [] h Q := by
  refine w_iload_n dX12_begin_36 rfl ?_
  exact w_ireturn dX12_begin_37 rfl k
