/-! ===== segments: what the program does from a place to the next ===== -/
theorem bX6_hearAsk_0 {d : Nat} {h : HP} {Q : Out → HP → Prop} {v0 : Nat} {v1 : Nat} {v2 : Nat} {u3 : Option Value} (k : (hK h v2 = 9) ∧ ((hK h v1 = 8) ∧ (((¬ (hI h 903 v2) = (hI h 808 v1)) → (((0 : Int32) = 0) → (hK h v0 = 6) ∧ ((1 < (hR h 601 v0)) ∧ ((hK h (hR h 601 v0) = 10) ∧ (WP d mX10_send 0 [some (.ref (hR h 601 v0)), some (.int (1 : Int32)), some (.int (hI h 800 v1)), some (.int (hI h 901 v2)), some (.int (hI h 808 v1)), none] [] h (KK d mX6_hearAsk mX10_send 54 [some (.ref v0), some (.ref v1), some (.ref v2), some (.int (0 : Int32))] [] Q))))) ∧ ((¬ ((0 : Int32) = 0)) → (hK h v0 = 6) ∧ ((1 < (hR h 601 v0)) ∧ ((hK h (hR h 601 v0) = 10) ∧ (WP d mX10_send 0 [some (.ref (hR h 601 v0)), some (.int (1 : Int32)), some (.int (hI (sI h 809 v1 (hI h 901 v2)) 800 v1)), some (.int (hI (sI h 809 v1 (hI h 901 v2)) 901 v2)), some (.int (hI (sI h 809 v1 (hI h 901 v2)) 808 v1)), none] [] (sI h 809 v1 (hI h 901 v2)) (KK d mX6_hearAsk mX10_send 54 [some (.ref v0), some (.ref v1), some (.ref v2), some (.int (0 : Int32))] [] Q)))))) ∧ ((¬ (¬ (hI h 903 v2) = (hI h 808 v1))) → (1 < v1) ∧ (WP d mX8_canVoteFor 0 [some (.ref v1), some (.ref v2), none] [] h (KK d mX6_hearAsk mX8_canVoteFor 13 [some (.ref v0), some (.ref v1), some (.ref v2), u3] [] Q)))))) : WP (d + 1) mX6_hearAsk 0 [some (.ref v0), some (.ref v1), some (.ref v2), u3] [] h Q := by
  refine w_aload_n dX6_hearAsk_0 rfl ?_
  obtain ⟨g1, k⟩ := k
  refine w_getI dX6_hearAsk_1 f_6_101 t_9_3 g1 ?_
  refine w_aload_n dX6_hearAsk_4 rfl ?_
  obtain ⟨g2, k⟩ := k
  refine w_getI dX6_hearAsk_5 f_6_27 t_8_8 g2 ?_
  refine w_ic_ne (pc' := 23) dX6_hearAsk_8 rfl rfl ⟨fun c => ?_, fun c => ?_⟩
  · replace k := k.1 c
    refine w_iconst dX6_hearAsk_23 i1_0 ?_
    refine w_istore_n (lo' := [some (.ref v0), some (.ref v1), some (.ref v2), some (.int (0 : Int32))]) dX6_hearAsk_24 (ltQ rfl) rfl ?_
    refine w_iload_n dX6_hearAsk_25 rfl ?_
    refine w_if_eq (pc' := 37) dX6_hearAsk_26 rfl rfl ⟨fun c => ?_, fun c => ?_⟩
    · replace k := k.1 c
      refine w_aload_n dX6_hearAsk_37 rfl ?_
      obtain ⟨g3, k⟩ := k
      refine w_getR dX6_hearAsk_38 f_6_15 t_6_1 g3 ?_
      refine w_iconst dX6_hearAsk_41 i1_1 ?_
      refine w_aload_n dX6_hearAsk_42 rfl ?_
      refine w_getI dX6_hearAsk_43 f_6_33 t_8_0 g2 ?_
      refine w_aload_n dX6_hearAsk_46 rfl ?_
      refine w_getI dX6_hearAsk_47 f_6_126 t_9_1 g1 ?_
      refine w_aload_n dX6_hearAsk_50 rfl ?_
      refine w_getI dX6_hearAsk_51 f_6_27 t_8_8 g2 ?_
      obtain ⟨g4, k⟩ := k
      obtain ⟨g5, k⟩ := k
      exact w_virt (as1 := [.int (hI h 808 v1), .int (hI h 901 v2), .int (hI h 800 v1), .int (1 : Int32), .ref (hR h 601 v0)]) (as2 := [.ref (hR h 601 v0), .int (1 : Int32), .int (hI h 800 v1), .int (hI h 901 v2), .int (hI h 808 v1)]) (rest := []) (lo2 := [some (.ref (hR h 601 v0)), some (.int (1 : Int32)), some (.int (hI h 800 v1)), some (.int (hI h 901 v2)), some (.int (hI h 808 v1)), none]) dX6_hearAsk_54 c_6_50 rfl rfl rfl (Nat.le_of_ble_eq_true rfl) (Nat.le_of_ble_eq_true rfl) rfl (Nat.le_of_ble_eq_true rfl) rfl rfl g4 g5 k
    · replace k := k.2 c
      refine w_aload_n dX6_hearAsk_29 rfl ?_
      refine w_aload_n dX6_hearAsk_30 rfl ?_
      refine w_getI dX6_hearAsk_31 f_6_126 t_9_1 g1 ?_
      refine w_putI dX6_hearAsk_34 f_6_36 t_8_9 (pf_nf n_8_9) g2 ?_
      refine w_aload_n dX6_hearAsk_37 rfl ?_
      obtain ⟨g6, k⟩ := k
      refine w_getR dX6_hearAsk_38 f_6_15 t_6_1 g6 ?_
      refine w_iconst dX6_hearAsk_41 i1_1 ?_
      refine w_aload_n dX6_hearAsk_42 rfl ?_
      refine w_getI dX6_hearAsk_43 f_6_33 t_8_0 g2 ?_
      refine w_aload_n dX6_hearAsk_46 rfl ?_
      refine w_getI dX6_hearAsk_47 f_6_126 t_9_1 g1 ?_
      refine w_aload_n dX6_hearAsk_50 rfl ?_
      refine w_getI dX6_hearAsk_51 f_6_27 t_8_8 g2 ?_
      obtain ⟨g7, k⟩ := k
      obtain ⟨g8, k⟩ := k
      exact w_virt (as1 := [.int (hI (sI h 809 v1 (hI h 901 v2)) 808 v1), .int (hI (sI h 809 v1 (hI h 901 v2)) 901 v2), .int (hI (sI h 809 v1 (hI h 901 v2)) 800 v1), .int (1 : Int32), .ref (hR h 601 v0)]) (as2 := [.ref (hR h 601 v0), .int (1 : Int32), .int (hI (sI h 809 v1 (hI h 901 v2)) 800 v1), .int (hI (sI h 809 v1 (hI h 901 v2)) 901 v2), .int (hI (sI h 809 v1 (hI h 901 v2)) 808 v1)]) (rest := []) (lo2 := [some (.ref (hR h 601 v0)), some (.int (1 : Int32)), some (.int (hI (sI h 809 v1 (hI h 901 v2)) 800 v1)), some (.int (hI (sI h 809 v1 (hI h 901 v2)) 901 v2)), some (.int (hI (sI h 809 v1 (hI h 901 v2)) 808 v1)), none]) dX6_hearAsk_54 c_6_50 rfl rfl rfl (Nat.le_of_ble_eq_true rfl) (Nat.le_of_ble_eq_true rfl) rfl (Nat.le_of_ble_eq_true rfl) rfl rfl g7 g8 k
  · replace k := k.2 c
    refine w_aload_n dX6_hearAsk_11 rfl ?_
    refine w_aload_n dX6_hearAsk_12 rfl ?_
    obtain ⟨g9, k⟩ := k
    exact w_virt (as1 := [.ref v2, .ref v1]) (as2 := [.ref v1, .ref v2]) (rest := []) (lo2 := [some (.ref v1), some (.ref v2), none]) dX6_hearAsk_13 c_6_122 rfl rfl rfl (Nat.le_of_ble_eq_true rfl) (Nat.le_of_ble_eq_true rfl) rfl (Nat.le_of_ble_eq_true rfl) rfl rfl g9 g2 k
theorem bX6_hearAsk_16 {d : Nat} {h : HP} {Q : Out → HP → Prop} {v0 : Nat} {v1 : Nat} {v2 : Nat} {u3 : Option Value} {s0 : Int32} (k : ((s0 = 0) → (((0 : Int32) = 0) → (hK h v0 = 6) ∧ ((hK h v1 = 8) ∧ ((hK h v2 = 9) ∧ ((1 < (hR h 601 v0)) ∧ ((hK h (hR h 601 v0) = 10) ∧ (WP d mX10_send 0 [some (.ref (hR h 601 v0)), some (.int (1 : Int32)), some (.int (hI h 800 v1)), some (.int (hI h 901 v2)), some (.int (hI h 808 v1)), none] [] h (KK d mX6_hearAsk mX10_send 54 [some (.ref v0), some (.ref v1), some (.ref v2), some (.int (0 : Int32))] [] Q))))))) ∧ ((¬ ((0 : Int32) = 0)) → (hK h v2 = 9) ∧ ((hK h v1 = 8) ∧ ((hK h v0 = 6) ∧ ((1 < (hR h 601 v0)) ∧ ((hK h (hR h 601 v0) = 10) ∧ (WP d mX10_send 0 [some (.ref (hR h 601 v0)), some (.int (1 : Int32)), some (.int (hI (sI h 809 v1 (hI h 901 v2)) 800 v1)), some (.int (hI (sI h 809 v1 (hI h 901 v2)) 901 v2)), some (.int (hI (sI h 809 v1 (hI h 901 v2)) 808 v1)), none] [] (sI h 809 v1 (hI h 901 v2)) (KK d mX6_hearAsk mX10_send 54 [some (.ref v0), some (.ref v1), some (.ref v2), some (.int (0 : Int32))] [] Q)))))))) ∧ ((¬ (s0 = 0)) → (((1 : Int32) = 0) → (hK h v0 = 6) ∧ ((hK h v1 = 8) ∧ ((hK h v2 = 9) ∧ ((1 < (hR h 601 v0)) ∧ ((hK h (hR h 601 v0) = 10) ∧ (WP d mX10_send 0 [some (.ref (hR h 601 v0)), some (.int (1 : Int32)), some (.int (hI h 800 v1)), some (.int (hI h 901 v2)), some (.int (hI h 808 v1)), none] [] h (KK d mX6_hearAsk mX10_send 54 [some (.ref v0), some (.ref v1), some (.ref v2), some (.int (1 : Int32))] [] Q))))))) ∧ ((¬ ((1 : Int32) = 0)) → (hK h v2 = 9) ∧ ((hK h v1 = 8) ∧ ((hK h v0 = 6) ∧ ((1 < (hR h 601 v0)) ∧ ((hK h (hR h 601 v0) = 10) ∧ (WP d mX10_send 0 [some (.ref (hR h 601 v0)), some (.int (1 : Int32)), some (.int (hI (sI h 809 v1 (hI h 901 v2)) 800 v1)), some (.int (hI (sI h 809 v1 (hI h 901 v2)) 901 v2)), some (.int (hI (sI h 809 v1 (hI h 901 v2)) 808 v1)), none] [] (sI h 809 v1 (hI h 901 v2)) (KK d mX6_hearAsk mX10_send 54 [some (.ref v0), some (.ref v1), some (.ref v2), some (.int (1 : Int32))] [] Q))))))))) : WP (d + 1) mX6_hearAsk 16 [some (.ref v0), some (.ref v1), some (.ref v2), u3] [.int s0] h Q := by
  refine w_if_eq (pc' := 23) dX6_hearAsk_16 rfl rfl ⟨fun c => ?_, fun c => ?_⟩
  · replace k := k.1 c
    refine w_iconst dX6_hearAsk_23 i1_0 ?_
    refine w_istore_n (lo' := [some (.ref v0), some (.ref v1), some (.ref v2), some (.int (0 : Int32))]) dX6_hearAsk_24 (ltQ rfl) rfl ?_
    refine w_iload_n dX6_hearAsk_25 rfl ?_
    refine w_if_eq (pc' := 37) dX6_hearAsk_26 rfl rfl ⟨fun c => ?_, fun c => ?_⟩
    · replace k := k.1 c
      refine w_aload_n dX6_hearAsk_37 rfl ?_
      obtain ⟨g1, k⟩ := k
      refine w_getR dX6_hearAsk_38 f_6_15 t_6_1 g1 ?_
      refine w_iconst dX6_hearAsk_41 i1_1 ?_
      refine w_aload_n dX6_hearAsk_42 rfl ?_
      obtain ⟨g2, k⟩ := k
      refine w_getI dX6_hearAsk_43 f_6_33 t_8_0 g2 ?_
      refine w_aload_n dX6_hearAsk_46 rfl ?_
      obtain ⟨g3, k⟩ := k
      refine w_getI dX6_hearAsk_47 f_6_126 t_9_1 g3 ?_
      refine w_aload_n dX6_hearAsk_50 rfl ?_
      refine w_getI dX6_hearAsk_51 f_6_27 t_8_8 g2 ?_
      obtain ⟨g4, k⟩ := k
      obtain ⟨g5, k⟩ := k
      exact w_virt (as1 := [.int (hI h 808 v1), .int (hI h 901 v2), .int (hI h 800 v1), .int (1 : Int32), .ref (hR h 601 v0)]) (as2 := [.ref (hR h 601 v0), .int (1 : Int32), .int (hI h 800 v1), .int (hI h 901 v2), .int (hI h 808 v1)]) (rest := []) (lo2 := [some (.ref (hR h 601 v0)), some (.int (1 : Int32)), some (.int (hI h 800 v1)), some (.int (hI h 901 v2)), some (.int (hI h 808 v1)), none]) dX6_hearAsk_54 c_6_50 rfl rfl rfl (Nat.le_of_ble_eq_true rfl) (Nat.le_of_ble_eq_true rfl) rfl (Nat.le_of_ble_eq_true rfl) rfl rfl g4 g5 k
    · replace k := k.2 c
      refine w_aload_n dX6_hearAsk_29 rfl ?_
      refine w_aload_n dX6_hearAsk_30 rfl ?_
      obtain ⟨g6, k⟩ := k
      refine w_getI dX6_hearAsk_31 f_6_126 t_9_1 g6 ?_
      obtain ⟨g7, k⟩ := k
      refine w_putI dX6_hearAsk_34 f_6_36 t_8_9 (pf_nf n_8_9) g7 ?_
      refine w_aload_n dX6_hearAsk_37 rfl ?_
      obtain ⟨g8, k⟩ := k
      refine w_getR dX6_hearAsk_38 f_6_15 t_6_1 g8 ?_
      refine w_iconst dX6_hearAsk_41 i1_1 ?_
      refine w_aload_n dX6_hearAsk_42 rfl ?_
      refine w_getI dX6_hearAsk_43 f_6_33 t_8_0 g7 ?_
      refine w_aload_n dX6_hearAsk_46 rfl ?_
      refine w_getI dX6_hearAsk_47 f_6_126 t_9_1 g6 ?_
      refine w_aload_n dX6_hearAsk_50 rfl ?_
      refine w_getI dX6_hearAsk_51 f_6_27 t_8_8 g7 ?_
      obtain ⟨g9, k⟩ := k
      obtain ⟨g10, k⟩ := k
      exact w_virt (as1 := [.int (hI (sI h 809 v1 (hI h 901 v2)) 808 v1), .int (hI (sI h 809 v1 (hI h 901 v2)) 901 v2), .int (hI (sI h 809 v1 (hI h 901 v2)) 800 v1), .int (1 : Int32), .ref (hR h 601 v0)]) (as2 := [.ref (hR h 601 v0), .int (1 : Int32), .int (hI (sI h 809 v1 (hI h 901 v2)) 800 v1), .int (hI (sI h 809 v1 (hI h 901 v2)) 901 v2), .int (hI (sI h 809 v1 (hI h 901 v2)) 808 v1)]) (rest := []) (lo2 := [some (.ref (hR h 601 v0)), some (.int (1 : Int32)), some (.int (hI (sI h 809 v1 (hI h 901 v2)) 800 v1)), some (.int (hI (sI h 809 v1 (hI h 901 v2)) 901 v2)), some (.int (hI (sI h 809 v1 (hI h 901 v2)) 808 v1)), none]) dX6_hearAsk_54 c_6_50 rfl rfl rfl (Nat.le_of_ble_eq_true rfl) (Nat.le_of_ble_eq_true rfl) rfl (Nat.le_of_ble_eq_true rfl) rfl rfl g9 g10 k
  · replace k := k.2 c
    refine w_iconst dX6_hearAsk_19 i1_1 ?_
    refine w_goto (pc' := 24) dX6_hearAsk_20 rfl rfl ?_
    refine w_istore_n (lo' := [some (.ref v0), some (.ref v1), some (.ref v2), some (.int (1 : Int32))]) dX6_hearAsk_24 (ltQ rfl) rfl ?_
    refine w_iload_n dX6_hearAsk_25 rfl ?_
    refine w_if_eq (pc' := 37) dX6_hearAsk_26 rfl rfl ⟨fun c => ?_, fun c => ?_⟩
    · replace k := k.1 c
      refine w_aload_n dX6_hearAsk_37 rfl ?_
      obtain ⟨g11, k⟩ := k
      refine w_getR dX6_hearAsk_38 f_6_15 t_6_1 g11 ?_
      refine w_iconst dX6_hearAsk_41 i1_1 ?_
      refine w_aload_n dX6_hearAsk_42 rfl ?_
      obtain ⟨g12, k⟩ := k
      refine w_getI dX6_hearAsk_43 f_6_33 t_8_0 g12 ?_
      refine w_aload_n dX6_hearAsk_46 rfl ?_
      obtain ⟨g13, k⟩ := k
      refine w_getI dX6_hearAsk_47 f_6_126 t_9_1 g13 ?_
      refine w_aload_n dX6_hearAsk_50 rfl ?_
      refine w_getI dX6_hearAsk_51 f_6_27 t_8_8 g12 ?_
      obtain ⟨g14, k⟩ := k
      obtain ⟨g15, k⟩ := k
      exact w_virt (as1 := [.int (hI h 808 v1), .int (hI h 901 v2), .int (hI h 800 v1), .int (1 : Int32), .ref (hR h 601 v0)]) (as2 := [.ref (hR h 601 v0), .int (1 : Int32), .int (hI h 800 v1), .int (hI h 901 v2), .int (hI h 808 v1)]) (rest := []) (lo2 := [some (.ref (hR h 601 v0)), some (.int (1 : Int32)), some (.int (hI h 800 v1)), some (.int (hI h 901 v2)), some (.int (hI h 808 v1)), none]) dX6_hearAsk_54 c_6_50 rfl rfl rfl (Nat.le_of_ble_eq_true rfl) (Nat.le_of_ble_eq_true rfl) rfl (Nat.le_of_ble_eq_true rfl) rfl rfl g14 g15 k
    · replace k := k.2 c
      refine w_aload_n dX6_hearAsk_29 rfl ?_
      refine w_aload_n dX6_hearAsk_30 rfl ?_
      obtain ⟨g16, k⟩ := k
      refine w_getI dX6_hearAsk_31 f_6_126 t_9_1 g16 ?_
      obtain ⟨g17, k⟩ := k
      refine w_putI dX6_hearAsk_34 f_6_36 t_8_9 (pf_nf n_8_9) g17 ?_
      refine w_aload_n dX6_hearAsk_37 rfl ?_
      obtain ⟨g18, k⟩ := k
      refine w_getR dX6_hearAsk_38 f_6_15 t_6_1 g18 ?_
      refine w_iconst dX6_hearAsk_41 i1_1 ?_
      refine w_aload_n dX6_hearAsk_42 rfl ?_
      refine w_getI dX6_hearAsk_43 f_6_33 t_8_0 g17 ?_
      refine w_aload_n dX6_hearAsk_46 rfl ?_
      refine w_getI dX6_hearAsk_47 f_6_126 t_9_1 g16 ?_
      refine w_aload_n dX6_hearAsk_50 rfl ?_
      refine w_getI dX6_hearAsk_51 f_6_27 t_8_8 g17 ?_
      obtain ⟨g19, k⟩ := k
      obtain ⟨g20, k⟩ := k
      exact w_virt (as1 := [.int (hI (sI h 809 v1 (hI h 901 v2)) 808 v1), .int (hI (sI h 809 v1 (hI h 901 v2)) 901 v2), .int (hI (sI h 809 v1 (hI h 901 v2)) 800 v1), .int (1 : Int32), .ref (hR h 601 v0)]) (as2 := [.ref (hR h 601 v0), .int (1 : Int32), .int (hI (sI h 809 v1 (hI h 901 v2)) 800 v1), .int (hI (sI h 809 v1 (hI h 901 v2)) 901 v2), .int (hI (sI h 809 v1 (hI h 901 v2)) 808 v1)]) (rest := []) (lo2 := [some (.ref (hR h 601 v0)), some (.int (1 : Int32)), some (.int (hI (sI h 809 v1 (hI h 901 v2)) 800 v1)), some (.int (hI (sI h 809 v1 (hI h 901 v2)) 901 v2)), some (.int (hI (sI h 809 v1 (hI h 901 v2)) 808 v1)), none]) dX6_hearAsk_54 c_6_50 rfl rfl rfl (Nat.le_of_ble_eq_true rfl) (Nat.le_of_ble_eq_true rfl) rfl (Nat.le_of_ble_eq_true rfl) rfl rfl g19 g20 k
theorem bX6_hearAsk_57 {d : Nat} {h : HP} {Q : Out → HP → Prop} {v0 : Nat} {v1 : Nat} {v2 : Nat} {v3 : Int32} {s0 : Nat} (k : (hK h s0 = 9) ∧ ((isZ v3 = true) ∧ (Q (.inl none) (sI h 908 s0 v3)))) : WP d mX6_hearAsk 57 [some (.ref v0), some (.ref v1), some (.ref v2), some (.int v3)] [.ref s0] h Q := by
  refine w_iload_n dX6_hearAsk_57 rfl ?_
  obtain ⟨g1, k⟩ := k
  obtain ⟨g2, k⟩ := k
  refine w_putZ dX6_hearAsk_58 f_6_129 t_9_8 (pf_nf n_9_8) g1 g2 ?_
  exact w_return dX6_hearAsk_61 rfl k
theorem bX6_hearVote_0 {d : Nat} {h : HP} {Q : Out → HP → Prop} {v0 : Nat} {v1 : Nat} {v2 : Nat} (k : (hK h v1 = 8) ∧ (((¬ (hI h 807 v1) = (1 : Int32)) → Q (.inl none) h) ∧ ((¬ (¬ (hI h 807 v1) = (1 : Int32))) → (hK h v2 = 9) ∧ (((¬ (hI h 903 v2) = (hI h 808 v1)) → Q (.inl none) h) ∧ ((¬ (¬ (hI h 903 v2) = (hI h 808 v1))) → ((¬ (hI h 908 v2) = 0) → (hK h v0 = 6) ∧ ((1 < (hR h 601 v0)) ∧ ((hK h (hR h 601 v0) = 10) ∧ (WP d mX10_areMost 0 [some (.ref (hR h 601 v0)), some (.int (hI (sI h 811 v1 ((hI h 811 v1) ||| ((1 : Int32) <<< ((hI h 901 v2) &&& 31)))) 811 v1))] [] (sI h 811 v1 ((hI h 811 v1) ||| ((1 : Int32) <<< ((hI h 901 v2) &&& 31)))) (KK d mX6_hearVote mX10_areMost 50 [some (.ref v0), some (.ref v1), some (.ref v2)] [] Q))))) ∧ ((¬ (¬ (hI h 908 v2) = 0)) → Q (.inl none) h)))))) : WP (d + 1) mX6_hearVote 0 [some (.ref v0), some (.ref v1), some (.ref v2)] [] h Q := by
  refine w_aload_n dX6_hearVote_0 rfl ?_
  obtain ⟨g1, k⟩ := k
  refine w_getI dX6_hearVote_1 f_6_39 t_8_7 g1 ?_
  refine w_iconst dX6_hearVote_4 i1_1 ?_
  refine w_ic_ne (pc' := 26) dX6_hearVote_5 rfl rfl ⟨fun c => ?_, fun c => ?_⟩
  · replace k := k.1 c
    exact w_return dX6_hearVote_26 rfl k
  · replace k := k.2 c
    refine w_aload_n dX6_hearVote_8 rfl ?_
    obtain ⟨g2, k⟩ := k
    refine w_getI dX6_hearVote_9 f_6_101 t_9_3 g2 ?_
    refine w_aload_n dX6_hearVote_12 rfl ?_
    refine w_getI dX6_hearVote_13 f_6_27 t_8_8 g1 ?_
    refine w_ic_ne (pc' := 26) dX6_hearVote_16 rfl rfl ⟨fun c => ?_, fun c => ?_⟩
    · replace k := k.1 c
      exact w_return dX6_hearVote_26 rfl k
    · replace k := k.2 c
      refine w_aload_n dX6_hearVote_19 rfl ?_
      refine w_getZ dX6_hearVote_20 f_6_129 t_9_8 g2 ?_
      refine w_if_ne (pc' := 27) dX6_hearVote_23 rfl rfl ⟨fun c => ?_, fun c => ?_⟩
      · replace k := k.1 c
        refine w_aload_n dX6_hearVote_27 rfl ?_
        refine w_dup dX6_hearVote_28 rfl ?_
        refine w_getI dX6_hearVote_29 f_6_42 t_8_11 g1 ?_
        refine w_iconst dX6_hearVote_32 i1_1 ?_
        refine w_aload_n dX6_hearVote_33 rfl ?_
        refine w_getI dX6_hearVote_34 f_6_126 t_9_1 g2 ?_
        refine w_ishl dX6_hearVote_37 ?_
        refine w_ior dX6_hearVote_38 ?_
        refine w_putI dX6_hearVote_39 f_6_42 t_8_11 (pf_nf n_8_11) g1 ?_
        refine w_aload_n dX6_hearVote_42 rfl ?_
        obtain ⟨g3, k⟩ := k
        refine w_getR dX6_hearVote_43 f_6_15 t_6_1 g3 ?_
        refine w_aload_n dX6_hearVote_46 rfl ?_
        refine w_getI dX6_hearVote_47 f_6_42 t_8_11 g1 ?_
        obtain ⟨g4, k⟩ := k
        obtain ⟨g5, k⟩ := k
        exact w_virt (as1 := [.int (hI (sI h 811 v1 ((hI h 811 v1) ||| ((1 : Int32) <<< ((hI h 901 v2) &&& 31)))) 811 v1), .ref (hR h 601 v0)]) (as2 := [.ref (hR h 601 v0), .int (hI (sI h 811 v1 ((hI h 811 v1) ||| ((1 : Int32) <<< ((hI h 901 v2) &&& 31)))) 811 v1)]) (rest := []) (lo2 := [some (.ref (hR h 601 v0)), some (.int (hI (sI h 811 v1 ((hI h 811 v1) ||| ((1 : Int32) <<< ((hI h 901 v2) &&& 31)))) 811 v1))]) dX6_hearVote_50 c_6_133 rfl rfl rfl (Nat.le_of_ble_eq_true rfl) (Nat.le_of_ble_eq_true rfl) rfl (Nat.le_of_ble_eq_true rfl) rfl rfl g4 g5 k
      · replace k := k.2 c
        exact w_return dX6_hearVote_26 rfl k
theorem bX6_hearVote_53 {d : Nat} {h : HP} {Q : Out → HP → Prop} {v0 : Nat} {v1 : Nat} {v2 : Nat} {s0 : Int32} (k : ((s0 = 0) → WP (d + 1) mX6_hearVote 75 [some (.ref v0), some (.ref v1), some (.ref v2)] [] h Q) ∧ ((¬ (s0 = 0)) → (hK h v1 = 8) ∧ ((hK h (hR h 801 v1) = 7) ∧ ((1 < (hR h 802 v1)) ∧ ((hK h (hR h 802 v1) = 5) ∧ (WP d mX5_start 0 [some (.ref (hR h 802 v1)), some (.int (hI (sI h 807 v1 (2 : Int32)) 701 (hR h 801 v1))), none] [] (sI h 807 v1 (2 : Int32)) (KK d mX6_hearVote mX5_start 72 [some (.ref v0), some (.ref v1), some (.ref v2)] [] Q))))))) : WP (d + 1) mX6_hearVote 53 [some (.ref v0), some (.ref v1), some (.ref v2)] [.int s0] h Q := by
  refine w_if_eq (pc' := 75) dX6_hearVote_53 rfl rfl ⟨fun c => ?_, fun c => ?_⟩
  · replace k := k.1 c
    exact k
  · replace k := k.2 c
    refine w_aload_n dX6_hearVote_56 rfl ?_
    refine w_iconst dX6_hearVote_57 i1_2 ?_
    obtain ⟨g1, k⟩ := k
    refine w_putI dX6_hearVote_58 f_6_39 t_8_7 (pf_nf n_8_7) g1 ?_
    refine w_aload_n dX6_hearVote_61 rfl ?_
    refine w_getR dX6_hearVote_62 f_6_73 t_8_2 g1 ?_
    refine w_aload_n dX6_hearVote_65 rfl ?_
    refine w_getR dX6_hearVote_66 f_6_54 t_8_1 g1 ?_
    obtain ⟨g2, k⟩ := k
    refine w_getI dX6_hearVote_69 f_6_58 t_7_1 g2 ?_
    obtain ⟨g3, k⟩ := k
    obtain ⟨g4, k⟩ := k
    exact w_virt (as1 := [.int (hI (sI h 807 v1 (2 : Int32)) 701 (hR h 801 v1)), .ref (hR h 802 v1)]) (as2 := [.ref (hR h 802 v1), .int (hI (sI h 807 v1 (2 : Int32)) 701 (hR h 801 v1))]) (rest := []) (lo2 := [some (.ref (hR h 802 v1)), some (.int (hI (sI h 807 v1 (2 : Int32)) 701 (hR h 801 v1))), none]) dX6_hearVote_72 c_6_137 rfl rfl rfl (Nat.le_of_ble_eq_true rfl) (Nat.le_of_ble_eq_true rfl) rfl (Nat.le_of_ble_eq_true rfl) rfl rfl g3 g4 k
theorem bX6_hearVote_75 {d : Nat} {h : HP} {Q : Out → HP → Prop} {v0 : Nat} {v1 : Nat} {v2 : Nat} (k : Q (.inl none) h) : WP d mX6_hearVote 75 [some (.ref v0), some (.ref v1), some (.ref v2)] [] h Q := by
  exact w_return dX6_hearVote_75 rfl k
theorem bX6_hearAppend_0 {d : Nat} {h : HP} {Q : Out → HP → Prop} {v0 : Nat} {v1 : Nat} {v2 : Nat} {u3 : Option Value} (k : (hK h v2 = 9) ∧ ((hK h v1 = 8) ∧ ((((hI h 808 v1) ≤ (hI h 903 v2)) → (1 < v1) ∧ (WP d mX8_follow 0 [some (.ref v1)] [] h (KK d mX6_hearAppend mX8_follow 21 [some (.ref v0), some (.ref v1), some (.ref v2), u3] [] Q))) ∧ ((¬ ((hI h 808 v1) ≤ (hI h 903 v2))) → (1 < v0) ∧ ((hK h v0 = 6) ∧ (WP d mX6_sendAck 0 [some (.ref v0), some (.ref v1), some (.ref v2), some (.int (0 : Int32)), some (.int (0 : Int32)), none] [] h (KK d mX6_hearAppend mX6_sendAck 16 [some (.ref v0), some (.ref v1), some (.ref v2), u3] [] Q))))))) : WP (d + 1) mX6_hearAppend 0 [some (.ref v0), some (.ref v1), some (.ref v2), u3] [] h Q := by
  refine w_aload_n dX6_hearAppend_0 rfl ?_
  obtain ⟨g1, k⟩ := k
  refine w_getI dX6_hearAppend_1 f_6_101 t_9_3 g1 ?_
  refine w_aload_n dX6_hearAppend_4 rfl ?_
  obtain ⟨g2, k⟩ := k
  refine w_getI dX6_hearAppend_5 f_6_27 t_8_8 g2 ?_
  refine w_ic_ge (pc' := 20) dX6_hearAppend_8 rfl rfl ⟨fun c => ?_, fun c => ?_⟩
  · replace k := k.1 c
    refine w_aload_n dX6_hearAppend_20 rfl ?_
    obtain ⟨g3, k⟩ := k
    exact w_virt (as1 := [.ref v1]) (as2 := [.ref v1]) (rest := []) (lo2 := [some (.ref v1)]) dX6_hearAppend_21 c_6_144 rfl rfl rfl (Nat.le_of_ble_eq_true rfl) (Nat.le_of_ble_eq_true rfl) rfl (Nat.le_of_ble_eq_true rfl) rfl rfl g3 g2 k
  · replace k := k.2 c
    refine w_aload_n dX6_hearAppend_11 rfl ?_
    refine w_aload_n dX6_hearAppend_12 rfl ?_
    refine w_aload_n dX6_hearAppend_13 rfl ?_
    refine w_iconst dX6_hearAppend_14 i1_0 ?_
    refine w_iconst dX6_hearAppend_15 i1_0 ?_
    obtain ⟨g4, k⟩ := k
    obtain ⟨g5, k⟩ := k
    exact w_virt (as1 := [.int (0 : Int32), .int (0 : Int32), .ref v2, .ref v1, .ref v0]) (as2 := [.ref v0, .ref v1, .ref v2, .int (0 : Int32), .int (0 : Int32)]) (rest := []) (lo2 := [some (.ref v0), some (.ref v1), some (.ref v2), some (.int (0 : Int32)), some (.int (0 : Int32)), none]) dX6_hearAppend_16 c_6_140 rfl rfl rfl (Nat.le_of_ble_eq_true rfl) (Nat.le_of_ble_eq_true rfl) rfl (Nat.le_of_ble_eq_true rfl) rfl rfl g4 g5 k
theorem bX6_hearAppend_19 {d : Nat} {h : HP} {Q : Out → HP → Prop} {v0 : Nat} {v1 : Nat} {v2 : Nat} {u3 : Option Value} (k : Q (.inl none) h) : WP d mX6_hearAppend 19 [some (.ref v0), some (.ref v1), some (.ref v2), u3] [] h Q := by
  exact w_return dX6_hearAppend_19 rfl k
theorem bX6_hearAppend_24 {d : Nat} {h : HP} {Q : Out → HP → Prop} {v0 : Nat} {v1 : Nat} {v2 : Nat} {u3 : Option Value} (k : (hK h v2 = 9) ∧ ((((hI h 904 v2) = 0) → (hK h v1 = 8) ∧ ((1 < v0) ∧ ((hK h v0 = 6) ∧ (WP d mX6_putEntries 0 [some (.ref v0), some (.ref (hR h 801 v1)), some (.ref v2), none, none, none] [] h (KK d mX6_hearAppend mX6_putEntries 79 [some (.ref v0), some (.ref v1), some (.ref v2), u3] [] Q))))) ∧ ((¬ ((hI h 904 v2) = 0)) → (hK h v1 = 8) ∧ ((1 < (hR h 801 v1)) ∧ ((hK h (hR h 801 v1) = 7) ∧ (WP d mX7_termAt 0 [some (.ref (hR h 801 v1)), some (.int (hI h 904 v2)), none] [] h (KK d mX6_hearAppend mX7_termAt 39 [some (.ref v0), some (.ref v1), some (.ref v2), u3] [] Q))))))) : WP (d + 1) mX6_hearAppend 24 [some (.ref v0), some (.ref v1), some (.ref v2), u3] [] h Q := by
  refine w_aload_n dX6_hearAppend_24 rfl ?_
  obtain ⟨g1, k⟩ := k
  refine w_getI dX6_hearAppend_25 f_6_63 t_9_4 g1 ?_
  refine w_if_eq (pc' := 73) dX6_hearAppend_28 rfl rfl ⟨fun c => ?_, fun c => ?_⟩
  · replace k := k.1 c
    refine w_aload_n dX6_hearAppend_73 rfl ?_
    refine w_aload_n dX6_hearAppend_74 rfl ?_
    obtain ⟨g2, k⟩ := k
    refine w_getR dX6_hearAppend_75 f_6_54 t_8_1 g2 ?_
    refine w_aload_n dX6_hearAppend_78 rfl ?_
    obtain ⟨g3, k⟩ := k
    obtain ⟨g4, k⟩ := k
    exact w_virt (as1 := [.ref v2, .ref (hR h 801 v1), .ref v0]) (as2 := [.ref v0, .ref (hR h 801 v1), .ref v2]) (rest := []) (lo2 := [some (.ref v0), some (.ref (hR h 801 v1)), some (.ref v2), none, none, none]) dX6_hearAppend_79 c_6_153 rfl rfl rfl (Nat.le_of_ble_eq_true rfl) (Nat.le_of_ble_eq_true rfl) rfl (Nat.le_of_ble_eq_true rfl) rfl rfl g3 g4 k
  · replace k := k.2 c
    refine w_aload_n dX6_hearAppend_31 rfl ?_
    obtain ⟨g5, k⟩ := k
    refine w_getR dX6_hearAppend_32 f_6_54 t_8_1 g5 ?_
    refine w_aload_n dX6_hearAppend_35 rfl ?_
    refine w_getI dX6_hearAppend_36 f_6_63 t_9_4 g1 ?_
    obtain ⟨g6, k⟩ := k
    obtain ⟨g7, k⟩ := k
    exact w_virt (as1 := [.int (hI h 904 v2), .ref (hR h 801 v1)]) (as2 := [.ref (hR h 801 v1), .int (hI h 904 v2)]) (rest := []) (lo2 := [some (.ref (hR h 801 v1)), some (.int (hI h 904 v2)), none]) dX6_hearAppend_39 c_6_66 rfl rfl rfl (Nat.le_of_ble_eq_true rfl) (Nat.le_of_ble_eq_true rfl) rfl (Nat.le_of_ble_eq_true rfl) rfl rfl g6 g7 k
theorem bX6_hearAppend_42 {d : Nat} {h : HP} {Q : Out → HP → Prop} {v0 : Nat} {v1 : Nat} {v2 : Nat} {u3 : Option Value} {s0 : Int32} (k : (hK h v2 = 9) ∧ (((s0 = (hI h 905 v2)) → (hK h v1 = 8) ∧ ((1 < v0) ∧ ((hK h v0 = 6) ∧ (WP d mX6_putEntries 0 [some (.ref v0), some (.ref (hR h 801 v1)), some (.ref v2), none, none, none] [] h (KK d mX6_hearAppend mX6_putEntries 79 [some (.ref v0), some (.ref v1), some (.ref v2), u3] [] Q))))) ∧ ((¬ (s0 = (hI h 905 v2))) → (hK h v1 = 8) ∧ ((hK h (hR h 801 v1) = 7) ∧ ((1 < v0) ∧ ((hK h v0 = 6) ∧ (WP d mX6_sendAck 0 [some (.ref v0), some (.ref v1), some (.ref v2), some (.int (0 : Int32)), some (.int (if (hI h 701 (hR h 801 v1)) < ((hI h 904 v2) - (1 : Int32)) then (hI h 701 (hR h 801 v1)) else ((hI h 904 v2) - (1 : Int32)))), none] [] h (KK d mX6_hearAppend mX6_sendAck 69 [some (.ref v0), some (.ref v1), some (.ref v2), u3] [] Q)))))))) : WP (d + 1) mX6_hearAppend 42 [some (.ref v0), some (.ref v1), some (.ref v2), u3] [.int s0] h Q := by
  refine w_aload_n dX6_hearAppend_42 rfl ?_
  obtain ⟨g1, k⟩ := k
  refine w_getI dX6_hearAppend_43 f_6_70 t_9_5 g1 ?_
  refine w_ic_eq (pc' := 73) dX6_hearAppend_46 rfl rfl ⟨fun c => ?_, fun c => ?_⟩
  · replace k := k.1 c
    refine w_aload_n dX6_hearAppend_73 rfl ?_
    refine w_aload_n dX6_hearAppend_74 rfl ?_
    obtain ⟨g2, k⟩ := k
    refine w_getR dX6_hearAppend_75 f_6_54 t_8_1 g2 ?_
    refine w_aload_n dX6_hearAppend_78 rfl ?_
    obtain ⟨g3, k⟩ := k
    obtain ⟨g4, k⟩ := k
    exact w_virt (as1 := [.ref v2, .ref (hR h 801 v1), .ref v0]) (as2 := [.ref v0, .ref (hR h 801 v1), .ref v2]) (rest := []) (lo2 := [some (.ref v0), some (.ref (hR h 801 v1)), some (.ref v2), none, none, none]) dX6_hearAppend_79 c_6_153 rfl rfl rfl (Nat.le_of_ble_eq_true rfl) (Nat.le_of_ble_eq_true rfl) rfl (Nat.le_of_ble_eq_true rfl) rfl rfl g3 g4 k
  · replace k := k.2 c
    refine w_aload_n dX6_hearAppend_49 rfl ?_
    refine w_aload_n dX6_hearAppend_50 rfl ?_
    refine w_aload_n dX6_hearAppend_51 rfl ?_
    refine w_iconst dX6_hearAppend_52 i1_0 ?_
    refine w_aload_n dX6_hearAppend_53 rfl ?_
    refine w_getI dX6_hearAppend_54 f_6_63 t_9_4 g1 ?_
    refine w_iconst dX6_hearAppend_57 i1_1 ?_
    refine w_isub dX6_hearAppend_58 ?_
    refine w_aload_n dX6_hearAppend_59 rfl ?_
    obtain ⟨g5, k⟩ := k
    refine w_getR dX6_hearAppend_60 f_6_54 t_8_1 g5 ?_
    obtain ⟨g6, k⟩ := k
    refine w_getI dX6_hearAppend_63 f_6_58 t_7_1 g6 ?_
    refine w_min dX6_hearAppend_66 c_6_147 (Nat.le_of_ble_eq_true rfl) rfl ?_
    obtain ⟨g7, k⟩ := k
    obtain ⟨g8, k⟩ := k
    exact w_virt (as1 := [.int (if (hI h 701 (hR h 801 v1)) < ((hI h 904 v2) - (1 : Int32)) then (hI h 701 (hR h 801 v1)) else ((hI h 904 v2) - (1 : Int32))), .int (0 : Int32), .ref v2, .ref v1, .ref v0]) (as2 := [.ref v0, .ref v1, .ref v2, .int (0 : Int32), .int (if (hI h 701 (hR h 801 v1)) < ((hI h 904 v2) - (1 : Int32)) then (hI h 701 (hR h 801 v1)) else ((hI h 904 v2) - (1 : Int32)))]) (rest := []) (lo2 := [some (.ref v0), some (.ref v1), some (.ref v2), some (.int (0 : Int32)), some (.int (if (hI h 701 (hR h 801 v1)) < ((hI h 904 v2) - (1 : Int32)) then (hI h 701 (hR h 801 v1)) else ((hI h 904 v2) - (1 : Int32)))), none]) dX6_hearAppend_69 c_6_140 rfl rfl rfl (Nat.le_of_ble_eq_true rfl) (Nat.le_of_ble_eq_true rfl) rfl (Nat.le_of_ble_eq_true rfl) rfl rfl g7 g8 k
theorem bX6_hearAppend_72 {d : Nat} {h : HP} {Q : Out → HP → Prop} {v0 : Nat} {v1 : Nat} {v2 : Nat} {u3 : Option Value} (k : Q (.inl none) h) : WP d mX6_hearAppend 72 [some (.ref v0), some (.ref v1), some (.ref v2), u3] [] h Q := by
  exact w_return dX6_hearAppend_72 rfl k
theorem bX6_hearAppend_82 {d : Nat} {h : HP} {Q : Out → HP → Prop} {v0 : Nat} {v1 : Nat} {v2 : Nat} {u3 : Option Value} (k : (hK h v2 = 9) ∧ ((hK h v1 = 8) ∧ (WP d mX6_hearAppend 116 [some (.ref v0), some (.ref v1), some (.ref v2), some (.int ((hI h 904 v2) + (hI h 910 v2)))] [.int (hI (sI h 810 v1 (if (hI h 810 v1) < (if ((hI h 904 v2) + (hI h 910 v2)) < (hI h 906 v2) then ((hI h 904 v2) + (hI h 910 v2)) else (hI h 906 v2)) then (if ((hI h 904 v2) + (hI h 910 v2)) < (hI h 906 v2) then ((hI h 904 v2) + (hI h 910 v2)) else (hI h 906 v2)) else (hI h 810 v1))) 901 v2), .ref v1] (sI h 810 v1 (if (hI h 810 v1) < (if ((hI h 904 v2) + (hI h 910 v2)) < (hI h 906 v2) then ((hI h 904 v2) + (hI h 910 v2)) else (hI h 906 v2)) then (if ((hI h 904 v2) + (hI h 910 v2)) < (hI h 906 v2) then ((hI h 904 v2) + (hI h 910 v2)) else (hI h 906 v2)) else (hI h 810 v1))) Q))) : WP d mX6_hearAppend 82 [some (.ref v0), some (.ref v1), some (.ref v2), u3] [] h Q := by
  refine w_aload_n dX6_hearAppend_82 rfl ?_
  obtain ⟨g1, k⟩ := k
  refine w_getI dX6_hearAppend_83 f_6_63 t_9_4 g1 ?_
  refine w_aload_n dX6_hearAppend_86 rfl ?_
  refine w_getI dX6_hearAppend_87 f_6_95 t_9_10 g1 ?_
  refine w_iadd dX6_hearAppend_90 ?_
  refine w_istore_n (lo' := [some (.ref v0), some (.ref v1), some (.ref v2), some (.int ((hI h 904 v2) + (hI h 910 v2)))]) dX6_hearAppend_91 (ltQ rfl) rfl ?_
  refine w_aload_n dX6_hearAppend_92 rfl ?_
  refine w_aload_n dX6_hearAppend_93 rfl ?_
  obtain ⟨g2, k⟩ := k
  refine w_getI dX6_hearAppend_94 f_6_87 t_8_10 g2 ?_
  refine w_aload_n dX6_hearAppend_97 rfl ?_
  refine w_getI dX6_hearAppend_98 f_6_90 t_9_6 g1 ?_
  refine w_iload_n dX6_hearAppend_101 rfl ?_
  refine w_min dX6_hearAppend_102 c_6_147 (Nat.le_of_ble_eq_true rfl) rfl ?_
  refine w_max dX6_hearAppend_105 c_6_157 (Nat.le_of_ble_eq_true rfl) rfl ?_
  refine w_putI dX6_hearAppend_108 f_6_87 t_8_10 (pf_nf n_8_10) g2 ?_
  refine w_aload_n dX6_hearAppend_111 rfl ?_
  refine w_aload_n dX6_hearAppend_112 rfl ?_
  refine w_getI dX6_hearAppend_113 f_6_126 t_9_1 g1 ?_
  exact k
theorem bX6_hearAppend_116 {d : Nat} {h : HP} {Q : Out → HP → Prop} {v0 : Nat} {v1 : Nat} {v2 : Nat} {v3 : Int32} {s0 : Int32} {s1 : Nat} (k : (hK h v0 = 6) ∧ ((1 < s1) ∧ ((hK h s1 = 8) ∧ (WP d mX8_promise 0 [some (.ref s1), some (.int s0), some (.float (hF h 602 v0))] [] h (KK d mX6_hearAppend mX8_promise 120 [some (.ref v0), some (.ref v1), some (.ref v2), some (.int v3)] [] Q))))) : WP (d + 1) mX6_hearAppend 116 [some (.ref v0), some (.ref v1), some (.ref v2), some (.int v3)] [.int s0, .ref s1] h Q := by
  refine w_aload_n dX6_hearAppend_116 rfl ?_
  obtain ⟨g1, k⟩ := k
  refine w_getF dX6_hearAppend_117 f_6_20 t_6_2 g1 ?_
  obtain ⟨g2, k⟩ := k
  obtain ⟨g3, k⟩ := k
  exact w_virt (as1 := [.float (hF h 602 v0), .int s0, .ref s1]) (as2 := [.ref s1, .int s0, .float (hF h 602 v0)]) (rest := []) (lo2 := [some (.ref s1), some (.int s0), some (.float (hF h 602 v0))]) dX6_hearAppend_120 c_6_160 rfl rfl rfl (Nat.le_of_ble_eq_true rfl) (Nat.le_of_ble_eq_true rfl) rfl (Nat.le_of_ble_eq_true rfl) rfl rfl g2 g3 k
theorem bX6_hearAppend_123 {d : Nat} {h : HP} {Q : Out → HP → Prop} {v0 : Nat} {v1 : Nat} {v2 : Nat} {v3 : Int32} (k : (1 < v0) ∧ ((hK h v0 = 6) ∧ (WP d mX6_sendAck 0 [some (.ref v0), some (.ref v1), some (.ref v2), some (.int (1 : Int32)), some (.int v3), none] [] h (KK d mX6_hearAppend mX6_sendAck 128 [some (.ref v0), some (.ref v1), some (.ref v2), some (.int v3)] [] Q)))) : WP (d + 1) mX6_hearAppend 123 [some (.ref v0), some (.ref v1), some (.ref v2), some (.int v3)] [] h Q := by
  refine w_aload_n dX6_hearAppend_123 rfl ?_
  refine w_aload_n dX6_hearAppend_124 rfl ?_
  refine w_aload_n dX6_hearAppend_125 rfl ?_
  refine w_iconst dX6_hearAppend_126 i1_1 ?_
  refine w_iload_n dX6_hearAppend_127 rfl ?_
  obtain ⟨g1, k⟩ := k
  obtain ⟨g2, k⟩ := k
  exact w_virt (as1 := [.int v3, .int (1 : Int32), .ref v2, .ref v1, .ref v0]) (as2 := [.ref v0, .ref v1, .ref v2, .int (1 : Int32), .int v3]) (rest := []) (lo2 := [some (.ref v0), some (.ref v1), some (.ref v2), some (.int (1 : Int32)), some (.int v3), none]) dX6_hearAppend_128 c_6_140 rfl rfl rfl (Nat.le_of_ble_eq_true rfl) (Nat.le_of_ble_eq_true rfl) rfl (Nat.le_of_ble_eq_true rfl) rfl rfl g1 g2 k
theorem bX6_hearAppend_131 {d : Nat} {h : HP} {Q : Out → HP → Prop} {v0 : Nat} {v1 : Nat} {v2 : Nat} {v3 : Int32} (k : Q (.inl none) h) : WP d mX6_hearAppend 131 [some (.ref v0), some (.ref v1), some (.ref v2), some (.int v3)] [] h Q := by
  exact w_return dX6_hearAppend_131 rfl k
theorem bX6_putEntries_0 {d : Nat} {h : HP} {Q : Out → HP → Prop} {v0 : Nat} {v1 : Nat} {v2 : Nat} {u3 : Option Value} {u4 : Option Value} {u5 : Option Value} (k : WP d mX6_putEntries 2 [some (.ref v0), some (.ref v1), some (.ref v2), some (.int (0 : Int32)), u4, u5] [] h Q) : WP d mX6_putEntries 0 [some (.ref v0), some (.ref v1), some (.ref v2), u3, u4, u5] [] h Q := by
  refine w_iconst dX6_putEntries_0 i1_0 ?_
  refine w_istore_n (lo' := [some (.ref v0), some (.ref v1), some (.ref v2), some (.int (0 : Int32)), u4, u5]) dX6_putEntries_1 (ltQ rfl) rfl ?_
  exact k
theorem bX6_putEntries_2 {d : Nat} {h : HP} {Q : Out → HP → Prop} {v0 : Nat} {v1 : Nat} {v2 : Nat} {v3 : Int32} {u4 : Option Value} {u5 : Option Value} (k : (hK h v2 = 9) ∧ ((((hI h 910 v2) ≤ v3) → Q (.inl none) h) ∧ ((¬ ((hI h 910 v2) ≤ v3)) → (25 ≤ hK h (hR h 909 v2) ∧ hK h (hR h 909 v2) ≤ 29) ∧ ((inA h (hR h 909 v2) v3 = true) ∧ ((1 < v1) ∧ ((hK h v1 = 7) ∧ (WP d mX7_termAt 0 [some (.ref v1), some (.int (((hI h 904 v2) + (1 : Int32)) + v3)), none] [] h (KK d mX6_putEntries mX7_termAt 31 [some (.ref v0), some (.ref v1), some (.ref v2), some (.int v3), some (.ref (hAR h (hR h 909 v2) (v3).toNatClampNeg)), some (.int (((hI h 904 v2) + (1 : Int32)) + v3))] [] Q)))))))) : WP (d + 1) mX6_putEntries 2 [some (.ref v0), some (.ref v1), some (.ref v2), some (.int v3), u4, u5] [] h Q := by
  refine w_iload_n dX6_putEntries_2 rfl ?_
  refine w_aload_n dX6_putEntries_3 rfl ?_
  obtain ⟨g1, k⟩ := k
  refine w_getI dX6_putEntries_4 f_6_95 t_9_10 g1 ?_
  refine w_ic_ge (pc' := 62) dX6_putEntries_7 rfl rfl ⟨fun c => ?_, fun c => ?_⟩
  · replace k := k.1 c
    exact w_return dX6_putEntries_62 rfl k
  · replace k := k.2 c
    refine w_aload_n dX6_putEntries_10 rfl ?_
    refine w_getR dX6_putEntries_11 f_6_164 t_9_9 g1 ?_
    refine w_iload_n dX6_putEntries_14 rfl ?_
    obtain ⟨g2, k⟩ := k
    obtain ⟨g3, k⟩ := k
    refine w_aaload dX6_putEntries_15 rfl g3 g2.1 g2.2 ?_
    refine w_astore (lo' := [some (.ref v0), some (.ref v1), some (.ref v2), some (.int v3), some (.ref (hAR h (hR h 909 v2) (v3).toNatClampNeg)), u5]) dX6_putEntries_16 (ltQ rfl) rfl ?_
    refine w_aload_n dX6_putEntries_18 rfl ?_
    refine w_getI dX6_putEntries_19 f_6_63 t_9_4 g1 ?_
    refine w_iconst dX6_putEntries_22 i1_1 ?_
    refine w_iadd dX6_putEntries_23 ?_
    refine w_iload_n dX6_putEntries_24 rfl ?_
    refine w_iadd dX6_putEntries_25 ?_
    refine w_istore (lo' := [some (.ref v0), some (.ref v1), some (.ref v2), some (.int v3), some (.ref (hAR h (hR h 909 v2) (v3).toNatClampNeg)), some (.int (((hI h 904 v2) + (1 : Int32)) + v3))]) dX6_putEntries_26 (ltQ rfl) rfl ?_
    refine w_aload_n dX6_putEntries_28 rfl ?_
    refine w_iload dX6_putEntries_29 rfl ?_
    obtain ⟨g4, k⟩ := k
    obtain ⟨g5, k⟩ := k
    exact w_virt (as1 := [.int (((hI h 904 v2) + (1 : Int32)) + v3), .ref v1]) (as2 := [.ref v1, .int (((hI h 904 v2) + (1 : Int32)) + v3)]) (rest := []) (lo2 := [some (.ref v1), some (.int (((hI h 904 v2) + (1 : Int32)) + v3)), none]) dX6_putEntries_31 c_6_66 rfl rfl rfl (Nat.le_of_ble_eq_true rfl) (Nat.le_of_ble_eq_true rfl) rfl (Nat.le_of_ble_eq_true rfl) rfl rfl g4 g5 k
theorem bX6_putEntries_34 {d : Nat} {h : HP} {Q : Out → HP → Prop} {v0 : Nat} {v1 : Nat} {v2 : Nat} {v3 : Int32} {v4 : Nat} {v5 : Int32} {s0 : Int32} (k : (hK h v4 = 3) ∧ (((s0 = (hI h 300 v4)) → WP (d + 1) mX6_putEntries 56 [some (.ref v0), some (.ref v1), some (.ref v2), some (.int v3), some (.ref v4), some (.int v5)] [] h Q) ∧ ((¬ (s0 = (hI h 300 v4))) → (1 < v1) ∧ ((hK h v1 = 7) ∧ (WP d mX7_cutBehind 0 [some (.ref v1), some (.int (v5 - (1 : Int32)))] [] h (KK d mX6_putEntries mX7_cutBehind 47 [some (.ref v0), some (.ref v1), some (.ref v2), some (.int v3), some (.ref v4), some (.int v5)] [] Q)))))) : WP (d + 1) mX6_putEntries 34 [some (.ref v0), some (.ref v1), some (.ref v2), some (.int v3), some (.ref v4), some (.int v5)] [.int s0] h Q := by
  refine w_aload dX6_putEntries_34 rfl ?_
  obtain ⟨g1, k⟩ := k
  refine w_getI dX6_putEntries_36 f_6_168 t_3_0 g1 ?_
  refine w_ic_eq (pc' := 56) dX6_putEntries_39 rfl rfl ⟨fun c => ?_, fun c => ?_⟩
  · replace k := k.1 c
    exact k
  · replace k := k.2 c
    refine w_aload_n dX6_putEntries_42 rfl ?_
    refine w_iload dX6_putEntries_43 rfl ?_
    refine w_iconst dX6_putEntries_45 i1_1 ?_
    refine w_isub dX6_putEntries_46 ?_
    obtain ⟨g2, k⟩ := k
    obtain ⟨g3, k⟩ := k
    exact w_virt (as1 := [.int (v5 - (1 : Int32)), .ref v1]) (as2 := [.ref v1, .int (v5 - (1 : Int32))]) (rest := []) (lo2 := [some (.ref v1), some (.int (v5 - (1 : Int32)))]) dX6_putEntries_47 c_6_171 rfl rfl rfl (Nat.le_of_ble_eq_true rfl) (Nat.le_of_ble_eq_true rfl) rfl (Nat.le_of_ble_eq_true rfl) rfl rfl g2 g3 k
theorem bX6_putEntries_50 {d : Nat} {h : HP} {Q : Out → HP → Prop} {v0 : Nat} {v1 : Nat} {v2 : Nat} {v3 : Int32} {v4 : Nat} {v5 : Int32} (k : (1 < v1) ∧ ((hK h v1 = 7) ∧ (WP d mX7_put 0 [some (.ref v1), some (.ref v4)] [] h (KK d mX6_putEntries mX7_put 53 [some (.ref v0), some (.ref v1), some (.ref v2), some (.int v3), some (.ref v4), some (.int v5)] [] Q)))) : WP (d + 1) mX6_putEntries 50 [some (.ref v0), some (.ref v1), some (.ref v2), some (.int v3), some (.ref v4), some (.int v5)] [] h Q := by
  refine w_aload_n dX6_putEntries_50 rfl ?_
  refine w_aload dX6_putEntries_51 rfl ?_
  obtain ⟨g1, k⟩ := k
  obtain ⟨g2, k⟩ := k
  exact w_virt (as1 := [.ref v4, .ref v1]) (as2 := [.ref v1, .ref v4]) (rest := []) (lo2 := [some (.ref v1), some (.ref v4)]) dX6_putEntries_53 c_6_174 rfl rfl rfl (Nat.le_of_ble_eq_true rfl) (Nat.le_of_ble_eq_true rfl) rfl (Nat.le_of_ble_eq_true rfl) rfl rfl g1 g2 k
theorem bX6_putEntries_56 {d : Nat} {h : HP} {Q : Out → HP → Prop} {v0 : Nat} {v1 : Nat} {v2 : Nat} {v3 : Int32} {v4 : Nat} {v5 : Int32} (k : WP d mX6_putEntries 2 [some (.ref v0), some (.ref v1), some (.ref v2), some (.int (v3 + (1 : Int32))), some (.ref v4), some (.int v5)] [] h Q) : WP d mX6_putEntries 56 [some (.ref v0), some (.ref v1), some (.ref v2), some (.int v3), some (.ref v4), some (.int v5)] [] h Q := by
  refine w_iinc (lo' := [some (.ref v0), some (.ref v1), some (.ref v2), some (.int (v3 + (1 : Int32))), some (.ref v4), some (.int v5)]) dX6_putEntries_56 rfl i1_1 rfl ?_
  refine w_goto (pc' := 2) dX6_putEntries_59 rfl rfl ?_
  exact k
theorem bX6_sendAck_0 {d : Nat} {h : HP} {Q : Out → HP → Prop} {v0 : Nat} {v1 : Nat} {v2 : Nat} {v3 : Int32} {v4 : Int32} {u5 : Option Value} (k : (hK h v0 = 6) ∧ ((hK h v1 = 8) ∧ ((hK h v2 = 9) ∧ ((1 < (hR h 601 v0)) ∧ ((hK h (hR h 601 v0) = 10) ∧ (WP d mX10_send 0 [some (.ref (hR h 601 v0)), some (.int (3 : Int32)), some (.int (hI h 800 v1)), some (.int (hI h 901 v2)), some (.int (hI h 808 v1)), none] [] h (KK d mX6_sendAck mX10_send 17 [some (.ref v0), some (.ref v1), some (.ref v2), some (.int v3), some (.int v4), u5] [] Q))))))) : WP (d + 1) mX6_sendAck 0 [some (.ref v0), some (.ref v1), some (.ref v2), some (.int v3), some (.int v4), u5] [] h Q := by
  refine w_aload_n dX6_sendAck_0 rfl ?_
  obtain ⟨g1, k⟩ := k
  refine w_getR dX6_sendAck_1 f_6_15 t_6_1 g1 ?_
  refine w_iconst dX6_sendAck_4 i1_3 ?_
  refine w_aload_n dX6_sendAck_5 rfl ?_
  obtain ⟨g2, k⟩ := k
  refine w_getI dX6_sendAck_6 f_6_33 t_8_0 g2 ?_
  refine w_aload_n dX6_sendAck_9 rfl ?_
  obtain ⟨g3, k⟩ := k
  refine w_getI dX6_sendAck_10 f_6_126 t_9_1 g3 ?_
  refine w_aload_n dX6_sendAck_13 rfl ?_
  refine w_getI dX6_sendAck_14 f_6_27 t_8_8 g2 ?_
  obtain ⟨g4, k⟩ := k
  obtain ⟨g5, k⟩ := k
  exact w_virt (as1 := [.int (hI h 808 v1), .int (hI h 901 v2), .int (hI h 800 v1), .int (3 : Int32), .ref (hR h 601 v0)]) (as2 := [.ref (hR h 601 v0), .int (3 : Int32), .int (hI h 800 v1), .int (hI h 901 v2), .int (hI h 808 v1)]) (rest := []) (lo2 := [some (.ref (hR h 601 v0)), some (.int (3 : Int32)), some (.int (hI h 800 v1)), some (.int (hI h 901 v2)), some (.int (hI h 808 v1)), none]) dX6_sendAck_17 c_6_50 rfl rfl rfl (Nat.le_of_ble_eq_true rfl) (Nat.le_of_ble_eq_true rfl) rfl (Nat.le_of_ble_eq_true rfl) rfl rfl g4 g5 k
theorem bX6_sendAck_20 {d : Nat} {h : HP} {Q : Out → HP → Prop} {v0 : Nat} {v1 : Nat} {v2 : Nat} {v3 : Int32} {v4 : Int32} {u5 : Option Value} {s0 : Nat} (k : (hK h s0 = 9) ∧ ((isZ v3 = true) ∧ ((hK h v2 = 9) ∧ (Q (.inl none) (sF (sI (sI h 908 s0 v3) 904 s0 v4) 907 s0 (hF h 907 v2)))))) : WP d mX6_sendAck 20 [some (.ref v0), some (.ref v1), some (.ref v2), some (.int v3), some (.int v4), u5] [.ref s0] h Q := by
  refine w_astore (lo' := [some (.ref v0), some (.ref v1), some (.ref v2), some (.int v3), some (.int v4), some (.ref s0)]) dX6_sendAck_20 (ltQ rfl) rfl ?_
  refine w_aload dX6_sendAck_22 rfl ?_
  refine w_iload_n dX6_sendAck_24 rfl ?_
  obtain ⟨g1, k⟩ := k
  obtain ⟨g2, k⟩ := k
  refine w_putZ dX6_sendAck_25 f_6_129 t_9_8 (pf_nf n_9_8) g1 g2 ?_
  refine w_aload dX6_sendAck_28 rfl ?_
  refine w_iload dX6_sendAck_30 rfl ?_
  refine w_putI dX6_sendAck_32 f_6_63 t_9_4 (pf_nf n_9_4) g1 ?_
  refine w_aload dX6_sendAck_35 rfl ?_
  refine w_aload_n dX6_sendAck_37 rfl ?_
  obtain ⟨g3, k⟩ := k
  refine w_getF dX6_sendAck_38 f_6_94 t_9_7 g3 ?_
  refine w_putF dX6_sendAck_41 f_6_94 t_9_7 (pf_nf n_9_7) g1 ?_
  exact w_return dX6_sendAck_44 rfl k
theorem bX6_hearAck_0 {d : Nat} {h : HP} {Q : Out → HP → Prop} {v0 : Nat} {v1 : Nat} {v2 : Nat} (k : (hK h v1 = 8) ∧ (((¬ (hI h 807 v1) = (2 : Int32)) → Q (.inl none) h) ∧ ((¬ (¬ (hI h 807 v1) = (2 : Int32))) → (hK h v2 = 9) ∧ ((((hI h 903 v2) = (hI h 808 v1)) → ((¬ (hI h 908 v2) = 0) → (1 < (hR h 802 v1)) ∧ ((hK h (hR h 802 v1) = 5) ∧ (WP d mX5_learnSame 0 [some (.ref (hR h 802 v1)), some (.int (hI h 901 v2)), some (.int (hI h 904 v2))] [] h (KK d mX6_hearAck mX5_learnSame 56 [some (.ref v0), some (.ref v1), some (.ref v2)] [] Q)))) ∧ ((¬ (¬ (hI h 908 v2) = 0)) → (hK h (hR h 802 v1) = 5) ∧ ((hK h (hR h 500 (hR h 802 v1)) = 20) ∧ ((inA h (hR h 500 (hR h 802 v1)) (hI h 901 v2) = true) ∧ (Q (.inl none) (sAI h (hR h 500 (hR h 802 v1)) ((hI h 901 v2)).toNatClampNeg (hI h 904 v2))))))) ∧ ((¬ ((hI h 903 v2) = (hI h 808 v1))) → Q (.inl none) h))))) : WP (d + 1) mX6_hearAck 0 [some (.ref v0), some (.ref v1), some (.ref v2)] [] h Q := by
  refine w_aload_n dX6_hearAck_0 rfl ?_
  obtain ⟨g1, k⟩ := k
  refine w_getI dX6_hearAck_1 f_6_39 t_8_7 g1 ?_
  refine w_iconst dX6_hearAck_4 i1_2 ?_
  refine w_ic_ne (pc' := 19) dX6_hearAck_5 rfl rfl ⟨fun c => ?_, fun c => ?_⟩
  · replace k := k.1 c
    exact w_return dX6_hearAck_19 rfl k
  · replace k := k.2 c
    refine w_aload_n dX6_hearAck_8 rfl ?_
    obtain ⟨g2, k⟩ := k
    refine w_getI dX6_hearAck_9 f_6_101 t_9_3 g2 ?_
    refine w_aload_n dX6_hearAck_12 rfl ?_
    refine w_getI dX6_hearAck_13 f_6_27 t_8_8 g1 ?_
    refine w_ic_eq (pc' := 20) dX6_hearAck_16 rfl rfl ⟨fun c => ?_, fun c => ?_⟩
    · replace k := k.1 c
      refine w_aload_n dX6_hearAck_20 rfl ?_
      refine w_getZ dX6_hearAck_21 f_6_129 t_9_8 g2 ?_
      refine w_if_ne (pc' := 44) dX6_hearAck_24 rfl rfl ⟨fun c => ?_, fun c => ?_⟩
      · replace k := k.1 c
        refine w_aload_n dX6_hearAck_44 rfl ?_
        refine w_getR dX6_hearAck_45 f_6_73 t_8_2 g1 ?_
        refine w_aload_n dX6_hearAck_48 rfl ?_
        refine w_getI dX6_hearAck_49 f_6_126 t_9_1 g2 ?_
        refine w_aload_n dX6_hearAck_52 rfl ?_
        refine w_getI dX6_hearAck_53 f_6_63 t_9_4 g2 ?_
        obtain ⟨g3, k⟩ := k
        obtain ⟨g4, k⟩ := k
        exact w_virt (as1 := [.int (hI h 904 v2), .int (hI h 901 v2), .ref (hR h 802 v1)]) (as2 := [.ref (hR h 802 v1), .int (hI h 901 v2), .int (hI h 904 v2)]) (rest := []) (lo2 := [some (.ref (hR h 802 v1)), some (.int (hI h 901 v2)), some (.int (hI h 904 v2))]) dX6_hearAck_56 c_6_178 rfl rfl rfl (Nat.le_of_ble_eq_true rfl) (Nat.le_of_ble_eq_true rfl) rfl (Nat.le_of_ble_eq_true rfl) rfl rfl g3 g4 k
      · replace k := k.2 c
        refine w_aload_n dX6_hearAck_27 rfl ?_
        refine w_getR dX6_hearAck_28 f_6_73 t_8_2 g1 ?_
        obtain ⟨g5, k⟩ := k
        refine w_getR dX6_hearAck_31 f_6_77 t_5_0 g5 ?_
        refine w_aload_n dX6_hearAck_34 rfl ?_
        refine w_getI dX6_hearAck_35 f_6_126 t_9_1 g2 ?_
        refine w_aload_n dX6_hearAck_38 rfl ?_
        refine w_getI dX6_hearAck_39 f_6_63 t_9_4 g2 ?_
        obtain ⟨g6, k⟩ := k
        obtain ⟨g7, k⟩ := k
        refine w_iastore dX6_hearAck_42 g6 g7 ?_
        exact w_return dX6_hearAck_43 rfl k
    · replace k := k.2 c
      exact w_return dX6_hearAck_19 rfl k
theorem bX6_hearAck_59 {d : Nat} {h : HP} {Q : Out → HP → Prop} {v0 : Nat} {v1 : Nat} {v2 : Nat} (k : (1 < v0) ∧ ((hK h v0 = 6) ∧ (WP d mX6_commitWhatMostKnow 0 [some (.ref v0), some (.ref v1), none] [] h (KK d mX6_hearAck mX6_commitWhatMostKnow 61 [some (.ref v0), some (.ref v1), some (.ref v2)] [] Q)))) : WP (d + 1) mX6_hearAck 59 [some (.ref v0), some (.ref v1), some (.ref v2)] [] h Q := by
  refine w_aload_n dX6_hearAck_59 rfl ?_
  refine w_aload_n dX6_hearAck_60 rfl ?_
  obtain ⟨g1, k⟩ := k
  obtain ⟨g2, k⟩ := k
  exact w_virt (as1 := [.ref v1, .ref v0]) (as2 := [.ref v0, .ref v1]) (rest := []) (lo2 := [some (.ref v0), some (.ref v1), none]) dX6_hearAck_61 c_6_182 rfl rfl rfl (Nat.le_of_ble_eq_true rfl) (Nat.le_of_ble_eq_true rfl) rfl (Nat.le_of_ble_eq_true rfl) rfl rfl g1 g2 k
theorem bX6_hearAck_64 {d : Nat} {h : HP} {Q : Out → HP → Prop} {v0 : Nat} {v1 : Nat} {v2 : Nat} (k : (hK h v1 = 8) ∧ ((hK h v2 = 9) ∧ ((1 < (hR h 802 v1)) ∧ ((hK h (hR h 802 v1) = 5) ∧ (WP d mX5_learnClock 0 [some (.ref (hR h 802 v1)), some (.int (hI h 901 v2)), some (.float (hF h 907 v2))] [] h (KK d mX6_hearAck mX5_learnClock 76 [some (.ref v0), some (.ref v1), some (.ref v2)] [] Q)))))) : WP (d + 1) mX6_hearAck 64 [some (.ref v0), some (.ref v1), some (.ref v2)] [] h Q := by
  refine w_aload_n dX6_hearAck_64 rfl ?_
  obtain ⟨g1, k⟩ := k
  refine w_getR dX6_hearAck_65 f_6_73 t_8_2 g1 ?_
  refine w_aload_n dX6_hearAck_68 rfl ?_
  obtain ⟨g2, k⟩ := k
  refine w_getI dX6_hearAck_69 f_6_126 t_9_1 g2 ?_
  refine w_aload_n dX6_hearAck_72 rfl ?_
  refine w_getF dX6_hearAck_73 f_6_94 t_9_7 g2 ?_
  obtain ⟨g3, k⟩ := k
  obtain ⟨g4, k⟩ := k
  exact w_virt (as1 := [.float (hF h 907 v2), .int (hI h 901 v2), .ref (hR h 802 v1)]) (as2 := [.ref (hR h 802 v1), .int (hI h 901 v2), .float (hF h 907 v2)]) (rest := []) (lo2 := [some (.ref (hR h 802 v1)), some (.int (hI h 901 v2)), some (.float (hF h 907 v2))]) dX6_hearAck_76 c_6_186 rfl rfl rfl (Nat.le_of_ble_eq_true rfl) (Nat.le_of_ble_eq_true rfl) rfl (Nat.le_of_ble_eq_true rfl) rfl rfl g3 g4 k
theorem bX6_hearAck_79 {d : Nat} {h : HP} {Q : Out → HP → Prop} {v0 : Nat} {v1 : Nat} {v2 : Nat} (k : (1 < v0) ∧ ((hK h v0 = 6) ∧ (WP d mX6_renewLease 0 [some (.ref v0), some (.ref v1)] [] h (KK d mX6_hearAck mX6_renewLease 81 [some (.ref v0), some (.ref v1), some (.ref v2)] [] Q)))) : WP (d + 1) mX6_hearAck 79 [some (.ref v0), some (.ref v1), some (.ref v2)] [] h Q := by
  refine w_aload_n dX6_hearAck_79 rfl ?_
  refine w_aload_n dX6_hearAck_80 rfl ?_
  obtain ⟨g1, k⟩ := k
  obtain ⟨g2, k⟩ := k
  exact w_virt (as1 := [.ref v1, .ref v0]) (as2 := [.ref v0, .ref v1]) (rest := []) (lo2 := [some (.ref v0), some (.ref v1)]) dX6_hearAck_81 c_6_189 rfl rfl rfl (Nat.le_of_ble_eq_true rfl) (Nat.le_of_ble_eq_true rfl) rfl (Nat.le_of_ble_eq_true rfl) rfl rfl g1 g2 k
theorem bX6_hearAck_84 {d : Nat} {h : HP} {Q : Out → HP → Prop} {v0 : Nat} {v1 : Nat} {v2 : Nat} (k : Q (.inl none) h) : WP d mX6_hearAck 84 [some (.ref v0), some (.ref v1), some (.ref v2)] [] h Q := by
  exact w_return dX6_hearAck_84 rfl k
theorem bX6_commitWhatMostKnow_0 {d : Nat} {h : HP} {Q : Out → HP → Prop} {v0 : Nat} {v1 : Nat} {u2 : Option Value} (k : (hK h v1 = 8) ∧ ((hK h (hR h 801 v1) = 7) ∧ (WP d mX6_commitWhatMostKnow 8 [some (.ref v0), some (.ref v1), some (.int (hI h 701 (hR h 801 v1)))] [] h Q))) : WP d mX6_commitWhatMostKnow 0 [some (.ref v0), some (.ref v1), u2] [] h Q := by
  refine w_aload_n dX6_commitWhatMostKnow_0 rfl ?_
  obtain ⟨g1, k⟩ := k
  refine w_getR dX6_commitWhatMostKnow_1 f_6_54 t_8_1 g1 ?_
  obtain ⟨g2, k⟩ := k
  refine w_getI dX6_commitWhatMostKnow_4 f_6_58 t_7_1 g2 ?_
  refine w_istore_n (lo' := [some (.ref v0), some (.ref v1), some (.int (hI h 701 (hR h 801 v1)))]) dX6_commitWhatMostKnow_7 (ltQ rfl) rfl ?_
  exact k
theorem bX6_commitWhatMostKnow_8 {d : Nat} {h : HP} {Q : Out → HP → Prop} {v0 : Nat} {v1 : Nat} {v2 : Int32} (k : (hK h v1 = 8) ∧ (((v2 ≤ (hI h 810 v1)) → Q (.inl none) h) ∧ ((¬ (v2 ≤ (hI h 810 v1))) → (1 < (hR h 802 v1)) ∧ ((hK h (hR h 802 v1) = 5) ∧ (WP d mX5_knowing 0 [some (.ref (hR h 802 v1)), some (.int v2), none, none] [] h (KK d mX6_commitWhatMostKnow mX5_knowing 21 [some (.ref v0), some (.ref v1), some (.int v2)] [] Q)))))) : WP (d + 1) mX6_commitWhatMostKnow 8 [some (.ref v0), some (.ref v1), some (.int v2)] [] h Q := by
  refine w_iload_n dX6_commitWhatMostKnow_8 rfl ?_
  refine w_aload_n dX6_commitWhatMostKnow_9 rfl ?_
  obtain ⟨g1, k⟩ := k
  refine w_getI dX6_commitWhatMostKnow_10 f_6_87 t_8_10 g1 ?_
  refine w_ic_le (pc' := 63) dX6_commitWhatMostKnow_13 rfl rfl ⟨fun c => ?_, fun c => ?_⟩
  · replace k := k.1 c
    exact w_return dX6_commitWhatMostKnow_63 rfl k
  · replace k := k.2 c
    refine w_aload_n dX6_commitWhatMostKnow_16 rfl ?_
    refine w_getR dX6_commitWhatMostKnow_17 f_6_73 t_8_2 g1 ?_
    refine w_iload_n dX6_commitWhatMostKnow_20 rfl ?_
    obtain ⟨g2, k⟩ := k
    obtain ⟨g3, k⟩ := k
    exact w_virt (as1 := [.int v2, .ref (hR h 802 v1)]) (as2 := [.ref (hR h 802 v1), .int v2]) (rest := []) (lo2 := [some (.ref (hR h 802 v1)), some (.int v2), none, none]) dX6_commitWhatMostKnow_21 c_6_192 rfl rfl rfl (Nat.le_of_ble_eq_true rfl) (Nat.le_of_ble_eq_true rfl) rfl (Nat.le_of_ble_eq_true rfl) rfl rfl g2 g3 k
theorem bX6_commitWhatMostKnow_24 {d : Nat} {h : HP} {Q : Out → HP → Prop} {v0 : Nat} {v1 : Nat} {v2 : Int32} {s0 : Int32} (k : (hK h v0 = 6) ∧ ((1 < (hR h 601 v0)) ∧ ((hK h (hR h 601 v0) = 10) ∧ (WP d mX10_most 0 [some (.ref (hR h 601 v0))] [] h (KK d mX6_commitWhatMostKnow mX10_most 30 [some (.ref v0), some (.ref v1), some (.int v2)] [.int (s0 + (1 : Int32))] Q))))) : WP (d + 1) mX6_commitWhatMostKnow 24 [some (.ref v0), some (.ref v1), some (.int v2)] [.int s0] h Q := by
  refine w_iconst dX6_commitWhatMostKnow_24 i1_1 ?_
  refine w_iadd dX6_commitWhatMostKnow_25 ?_
  refine w_aload_n dX6_commitWhatMostKnow_26 rfl ?_
  obtain ⟨g1, k⟩ := k
  refine w_getR dX6_commitWhatMostKnow_27 f_6_15 t_6_1 g1 ?_
  obtain ⟨g2, k⟩ := k
  obtain ⟨g3, k⟩ := k
  exact w_virt (as1 := [.ref (hR h 601 v0)]) (as2 := [.ref (hR h 601 v0)]) (rest := [.int (s0 + (1 : Int32))]) (lo2 := [some (.ref (hR h 601 v0))]) dX6_commitWhatMostKnow_30 c_6_195 rfl rfl rfl (Nat.le_of_ble_eq_true rfl) (Nat.le_of_ble_eq_true rfl) rfl (Nat.le_of_ble_eq_true rfl) rfl rfl g2 g3 k
theorem bX6_commitWhatMostKnow_33 {d : Nat} {h : HP} {Q : Out → HP → Prop} {v0 : Nat} {v1 : Nat} {v2 : Int32} {s0 : Int32} {s1 : Int32} (k : ((s1 < s0) → WP (d + 1) mX6_commitWhatMostKnow 8 [some (.ref v0), some (.ref v1), some (.int (v2 + (-1 : Int32)))] [] h Q) ∧ ((¬ (s1 < s0)) → (hK h v1 = 8) ∧ ((1 < (hR h 801 v1)) ∧ ((hK h (hR h 801 v1) = 7) ∧ (WP d mX7_termAt 0 [some (.ref (hR h 801 v1)), some (.int v2), none] [] h (KK d mX6_commitWhatMostKnow mX7_termAt 41 [some (.ref v0), some (.ref v1), some (.int v2)] [] Q)))))) : WP (d + 1) mX6_commitWhatMostKnow 33 [some (.ref v0), some (.ref v1), some (.int v2)] [.int s0, .int s1] h Q := by
  refine w_ic_lt (pc' := 57) dX6_commitWhatMostKnow_33 rfl rfl ⟨fun c => ?_, fun c => ?_⟩
  · replace k := k.1 c
    refine w_iinc (lo' := [some (.ref v0), some (.ref v1), some (.int (v2 + (-1 : Int32)))]) dX6_commitWhatMostKnow_57 rfl i1_m1 rfl ?_
    refine w_goto (pc' := 8) dX6_commitWhatMostKnow_60 rfl rfl ?_
    exact k
  · replace k := k.2 c
    refine w_aload_n dX6_commitWhatMostKnow_36 rfl ?_
    obtain ⟨g1, k⟩ := k
    refine w_getR dX6_commitWhatMostKnow_37 f_6_54 t_8_1 g1 ?_
    refine w_iload_n dX6_commitWhatMostKnow_40 rfl ?_
    obtain ⟨g2, k⟩ := k
    obtain ⟨g3, k⟩ := k
    exact w_virt (as1 := [.int v2, .ref (hR h 801 v1)]) (as2 := [.ref (hR h 801 v1), .int v2]) (rest := []) (lo2 := [some (.ref (hR h 801 v1)), some (.int v2), none]) dX6_commitWhatMostKnow_41 c_6_66 rfl rfl rfl (Nat.le_of_ble_eq_true rfl) (Nat.le_of_ble_eq_true rfl) rfl (Nat.le_of_ble_eq_true rfl) rfl rfl g2 g3 k
theorem bX6_commitWhatMostKnow_44 {d : Nat} {h : HP} {Q : Out → HP → Prop} {v0 : Nat} {v1 : Nat} {v2 : Int32} {s0 : Int32} (k : (hK h v1 = 8) ∧ (((¬ s0 = (hI h 808 v1)) → Q (.inl none) h) ∧ ((¬ (¬ s0 = (hI h 808 v1))) → Q (.inl none) (sI h 810 v1 v2)))) : WP d mX6_commitWhatMostKnow 44 [some (.ref v0), some (.ref v1), some (.int v2)] [.int s0] h Q := by
  refine w_aload_n dX6_commitWhatMostKnow_44 rfl ?_
  obtain ⟨g1, k⟩ := k
  refine w_getI dX6_commitWhatMostKnow_45 f_6_27 t_8_8 g1 ?_
  refine w_ic_ne (pc' := 56) dX6_commitWhatMostKnow_48 rfl rfl ⟨fun c => ?_, fun c => ?_⟩
  · replace k := k.1 c
    exact w_return dX6_commitWhatMostKnow_56 rfl k
  · replace k := k.2 c
    refine w_aload_n dX6_commitWhatMostKnow_51 rfl ?_
    refine w_iload_n dX6_commitWhatMostKnow_52 rfl ?_
    refine w_putI dX6_commitWhatMostKnow_53 f_6_87 t_8_10 (pf_nf n_8_10) g1 ?_
    exact w_return dX6_commitWhatMostKnow_56 rfl k
theorem bX6_renewLease_0 {d : Nat} {h : HP} {Q : Out → HP → Prop} {v0 : Nat} {v1 : Nat} (k : (hK h v0 = 6) ∧ ((hK h v1 = 8) ∧ ((hK h (hR h 802 v1) = 5) ∧ ((1 < (hR h 601 v0)) ∧ ((hK h (hR h 601 v0) = 10) ∧ (WP d mX10_areMost 0 [some (.ref (hR h 601 v0)), some (.int ((hI h 502 (hR h 802 v1)) ||| ((1 : Int32) <<< ((hI h 800 v1) &&& 31))))] [] h (KK d mX6_renewLease mX10_areMost 18 [some (.ref v0), some (.ref v1)] [] Q))))))) : WP (d + 1) mX6_renewLease 0 [some (.ref v0), some (.ref v1)] [] h Q := by
  refine w_aload_n dX6_renewLease_0 rfl ?_
  obtain ⟨g1, k⟩ := k
  refine w_getR dX6_renewLease_1 f_6_15 t_6_1 g1 ?_
  refine w_aload_n dX6_renewLease_4 rfl ?_
  obtain ⟨g2, k⟩ := k
  refine w_getR dX6_renewLease_5 f_6_73 t_8_2 g2 ?_
  obtain ⟨g3, k⟩ := k
  refine w_getI dX6_renewLease_8 f_6_199 t_5_2 g3 ?_
  refine w_iconst dX6_renewLease_11 i1_1 ?_
  refine w_aload_n dX6_renewLease_12 rfl ?_
  refine w_getI dX6_renewLease_13 f_6_33 t_8_0 g2 ?_
  refine w_ishl dX6_renewLease_16 ?_
  refine w_ior dX6_renewLease_17 ?_
  obtain ⟨g4, k⟩ := k
  obtain ⟨g5, k⟩ := k
  exact w_virt (as1 := [.int ((hI h 502 (hR h 802 v1)) ||| ((1 : Int32) <<< ((hI h 800 v1) &&& 31))), .ref (hR h 601 v0)]) (as2 := [.ref (hR h 601 v0), .int ((hI h 502 (hR h 802 v1)) ||| ((1 : Int32) <<< ((hI h 800 v1) &&& 31)))]) (rest := []) (lo2 := [some (.ref (hR h 601 v0)), some (.int ((hI h 502 (hR h 802 v1)) ||| ((1 : Int32) <<< ((hI h 800 v1) &&& 31))))]) dX6_renewLease_18 c_6_133 rfl rfl rfl (Nat.le_of_ble_eq_true rfl) (Nat.le_of_ble_eq_true rfl) rfl (Nat.le_of_ble_eq_true rfl) rfl rfl g4 g5 k
theorem bX6_renewLease_21 {d : Nat} {h : HP} {Q : Out → HP → Prop} {v0 : Nat} {v1 : Nat} {s0 : Int32} (k : ((s0 = 0) → Q (.inl none) h) ∧ ((¬ (s0 = 0)) → (hK h v1 = 8) ∧ ((hK h (hR h 802 v1) = 5) ∧ ((hK h v0 = 6) ∧ ((1 < (hR h 601 v0)) ∧ ((hK h (hR h 601 v0) = 10) ∧ (WP d mX10_most 0 [some (.ref (hR h 601 v0))] [] (sI h 504 (hR h 802 v1) (1 : Int32)) (KK d mX6_renewLease mX10_most 44 [some (.ref v0), some (.ref v1)] [.ref (hR h 802 v1), .ref (hR h 802 v1)] Q)))))))) : WP (d + 1) mX6_renewLease 21 [some (.ref v0), some (.ref v1)] [.int s0] h Q := by
  refine w_if_eq (pc' := 67) dX6_renewLease_21 rfl rfl ⟨fun c => ?_, fun c => ?_⟩
  · replace k := k.1 c
    exact w_return dX6_renewLease_67 rfl k
  · replace k := k.2 c
    refine w_aload_n dX6_renewLease_24 rfl ?_
    obtain ⟨g1, k⟩ := k
    refine w_getR dX6_renewLease_25 f_6_73 t_8_2 g1 ?_
    refine w_iconst dX6_renewLease_28 i1_1 ?_
    obtain ⟨g2, k⟩ := k
    refine w_putZ dX6_renewLease_29 f_6_202 t_5_4 (pf_nf n_5_4) g2 rfl ?_
    refine w_aload_n dX6_renewLease_32 rfl ?_
    refine w_getR dX6_renewLease_33 f_6_73 t_8_2 g1 ?_
    refine w_aload_n dX6_renewLease_36 rfl ?_
    refine w_getR dX6_renewLease_37 f_6_73 t_8_2 g1 ?_
    refine w_aload_n dX6_renewLease_40 rfl ?_
    obtain ⟨g3, k⟩ := k
    refine w_getR dX6_renewLease_41 f_6_15 t_6_1 g3 ?_
    obtain ⟨g4, k⟩ := k
    obtain ⟨g5, k⟩ := k
    exact w_virt (as1 := [.ref (hR h 601 v0)]) (as2 := [.ref (hR h 601 v0)]) (rest := [.ref (hR h 802 v1), .ref (hR h 802 v1)]) (lo2 := [some (.ref (hR h 601 v0))]) dX6_renewLease_44 c_6_195 rfl rfl rfl (Nat.le_of_ble_eq_true rfl) (Nat.le_of_ble_eq_true rfl) rfl (Nat.le_of_ble_eq_true rfl) rfl rfl g4 g5 k
theorem bX6_renewLease_47 {d : Nat} {h : HP} {Q : Out → HP → Prop} {v0 : Nat} {v1 : Nat} {s0 : Int32} {s1 : Nat} {s2 : Nat} (k : (1 < s1) ∧ ((hK h s1 = 5) ∧ (WP d mX5_clockOf 0 [some (.ref s1), some (.int (s0 - (1 : Int32))), none, none] [] h (KK d mX6_renewLease mX5_clockOf 49 [some (.ref v0), some (.ref v1)] [.ref s2] Q)))) : WP (d + 1) mX6_renewLease 47 [some (.ref v0), some (.ref v1)] [.int s0, .ref s1, .ref s2] h Q := by
  refine w_iconst dX6_renewLease_47 i1_1 ?_
  refine w_isub dX6_renewLease_48 ?_
  obtain ⟨g1, k⟩ := k
  obtain ⟨g2, k⟩ := k
  exact w_virt (as1 := [.int (s0 - (1 : Int32)), .ref s1]) (as2 := [.ref s1, .int (s0 - (1 : Int32))]) (rest := [.ref s2]) (lo2 := [some (.ref s1), some (.int (s0 - (1 : Int32))), none, none]) dX6_renewLease_49 c_6_205 rfl rfl rfl (Nat.le_of_ble_eq_true rfl) (Nat.le_of_ble_eq_true rfl) rfl (Nat.le_of_ble_eq_true rfl) rfl rfl g1 g2 k
theorem bX6_renewLease_52 {d : Nat} {h : HP} {Q : Out → HP → Prop} {v0 : Nat} {v1 : Nat} {s0 : UInt32} {s1 : Nat} (k : (hK h v0 = 6) ∧ ((nn32 (FP.fsub FP.fconst1 (hF h 603 v0)) = true) ∧ ((nn32 (FP.fmul (hF h 602 v0) (FP.fsub FP.fconst1 (hF h 603 v0))) = true) ∧ ((nn32 (FP.fadd s0 (FP.fmul (hF h 602 v0) (FP.fsub FP.fconst1 (hF h 603 v0)))) = true) ∧ ((hK h s1 = 5) ∧ (Q (.inl none) (sF h 505 s1 (FP.fadd s0 (FP.fmul (hF h 602 v0) (FP.fsub FP.fconst1 (hF h 603 v0))))))))))) : WP d mX6_renewLease 52 [some (.ref v0), some (.ref v1)] [.float s0, .ref s1] h Q := by
  refine w_aload_n dX6_renewLease_52 rfl ?_
  obtain ⟨g1, k⟩ := k
  refine w_getF dX6_renewLease_53 f_6_20 t_6_2 g1 ?_
  refine w_fconst1 dX6_renewLease_56 ?_
  refine w_aload_n dX6_renewLease_57 rfl ?_
  refine w_getF dX6_renewLease_58 f_6_24 t_6_3 g1 ?_
  obtain ⟨g2, k⟩ := k
  refine w_fsub dX6_renewLease_61 g2 ?_
  obtain ⟨g3, k⟩ := k
  refine w_fmul dX6_renewLease_62 g3 ?_
  obtain ⟨g4, k⟩ := k
  refine w_fadd dX6_renewLease_63 g4 ?_
  obtain ⟨g5, k⟩ := k
  refine w_putF dX6_renewLease_64 f_6_209 t_5_5 (pf_nf n_5_5) g5 ?_
  exact w_return dX6_renewLease_67 rfl k
theorem bX7_init_0 {d : Nat} {h : HP} {Q : Out → HP → Prop} {v0 : Nat} (k : (1 < v0) ∧ ((hK (nw h 27 30 30) v0 = 7) ∧ (Q (.inl none) (sR (nw h 27 30 30) 700 v0 (hN h))))) : WP d mX7_init 0 [some (.ref v0)] [] h Q := by
  refine w_aload_n dX7_init_0 rfl ?_
  obtain ⟨g1, k⟩ := k
  refine w_obj dX7_init_1 c_7_3 (Nat.le_of_ble_eq_true rfl) rfl g1 ?_
  refine w_aload_n dX7_init_4 rfl ?_
  refine w_bipush dX7_init_5 i2_30 ?_
  refine w_anew (m := 30) dX7_init_7 (by decide) (by decide) (by decide) ar_7_9 ?_
  obtain ⟨g2, k⟩ := k
  refine w_putR dX7_init_10 f_7_11 t_7_0 (pf_in rfl rfl) g2 ?_
  exact w_return dX7_init_13 rfl k
theorem bX7_isFull_0 {d : Nat} {h : HP} {Q : Out → HP → Prop} {v0 : Nat} (k : (hK h v0 = 7) ∧ ((((hI h 701 v0) < (30 : Int32)) → Q (.inl (some (.int (0 : Int32)))) h) ∧ ((¬ ((hI h 701 v0) < (30 : Int32))) → Q (.inl (some (.int (1 : Int32)))) h))) : WP d mX7_isFull 0 [some (.ref v0)] [] h Q := by
  refine w_aload_n dX7_isFull_0 rfl ?_
  obtain ⟨g1, k⟩ := k
  refine w_getI dX7_isFull_1 f_7_17 t_7_1 g1 ?_
  refine w_bipush dX7_isFull_4 i2_30 ?_
  refine w_ic_lt (pc' := 13) dX7_isFull_6 rfl rfl ⟨fun c => ?_, fun c => ?_⟩
  · replace k := k.1 c
    refine w_iconst dX7_isFull_13 i1_0 ?_
    exact w_ireturn dX7_isFull_14 rfl k
  · replace k := k.2 c
    refine w_iconst dX7_isFull_9 i1_1 ?_
    refine w_goto (pc' := 14) dX7_isFull_10 rfl rfl ?_
    exact w_ireturn dX7_isFull_14 rfl k
theorem bX7_at_0 {d : Nat} {h : HP} {Q : Out → HP → Prop} {v0 : Nat} {v1 : Int32} (k : ((v1 < (1 : Int32)) → Q (.inl (some (.ref 0))) h) ∧ ((¬ (v1 < (1 : Int32))) → (hK h v0 = 7) ∧ ((((hI h 701 v0) < v1) → Q (.inl (some (.ref 0))) h) ∧ ((¬ ((hI h 701 v0) < v1)) → (25 ≤ hK h (hR h 700 v0) ∧ hK h (hR h 700 v0) ≤ 29) ∧ ((inA h (hR h 700 v0) (v1 - (1 : Int32)) = true) ∧ (Q (.inl (some (.ref (hAR h (hR h 700 v0) ((v1 - (1 : Int32))).toNatClampNeg)))) h)))))) : WP d mX7_at 0 [some (.ref v0), some (.int v1)] [] h Q := by
  refine w_iload_n dX7_at_0 rfl ?_
  refine w_iconst dX7_at_1 i1_1 ?_
  refine w_ic_lt (pc' := 24) dX7_at_2 rfl rfl ⟨fun c => ?_, fun c => ?_⟩
  · replace k := k.1 c
    refine w_null dX7_at_24 ?_
    exact w_areturn dX7_at_25 rfl k
  · replace k := k.2 c
    refine w_iload_n dX7_at_5 rfl ?_
    refine w_aload_n dX7_at_6 rfl ?_
    obtain ⟨g1, k⟩ := k
    refine w_getI dX7_at_7 f_7_17 t_7_1 g1 ?_
    refine w_ic_gt (pc' := 24) dX7_at_10 rfl rfl ⟨fun c => ?_, fun c => ?_⟩
    · replace k := k.1 c
      refine w_null dX7_at_24 ?_
      exact w_areturn dX7_at_25 rfl k
    · replace k := k.2 c
      refine w_aload_n dX7_at_13 rfl ?_
      refine w_getR dX7_at_14 f_7_11 t_7_0 g1 ?_
      refine w_iload_n dX7_at_17 rfl ?_
      refine w_iconst dX7_at_18 i1_1 ?_
      refine w_isub dX7_at_19 ?_
      obtain ⟨g2, k⟩ := k
      obtain ⟨g3, k⟩ := k
      refine w_aaload dX7_at_20 rfl g3 g2.1 g2.2 ?_
      refine w_goto (pc' := 25) dX7_at_21 rfl rfl ?_
      exact w_areturn dX7_at_25 rfl k
theorem bX7_termAt_0 {d : Nat} {h : HP} {Q : Out → HP → Prop} {v0 : Nat} {v1 : Int32} {u2 : Option Value} (k : (1 < v0) ∧ ((hK h v0 = 7) ∧ (WP d mX7_at 0 [some (.ref v0), some (.int v1)] [] h (KK d mX7_termAt mX7_at 2 [some (.ref v0), some (.int v1), u2] [] Q)))) : WP (d + 1) mX7_termAt 0 [some (.ref v0), some (.int v1), u2] [] h Q := by
  refine w_aload_n dX7_termAt_0 rfl ?_
  refine w_iload_n dX7_termAt_1 rfl ?_
  obtain ⟨g1, k⟩ := k
  obtain ⟨g2, k⟩ := k
  exact w_virt (as1 := [.int v1, .ref v0]) (as2 := [.ref v0, .int v1]) (rest := []) (lo2 := [some (.ref v0), some (.int v1)]) dX7_termAt_2 c_7_21 rfl rfl rfl (Nat.le_of_ble_eq_true rfl) (Nat.le_of_ble_eq_true rfl) rfl (Nat.le_of_ble_eq_true rfl) rfl rfl g1 g2 k
theorem bX7_termAt_5 {d : Nat} {h : HP} {Q : Out → HP → Prop} {v0 : Nat} {v1 : Int32} {u2 : Option Value} {s0 : Nat} (k : ((¬ s0 = 0) → (hK h s0 = 3) ∧ (Q (.inl (some (.int (hI h 300 s0)))) h)) ∧ ((¬ (¬ s0 = 0)) → Q (.inl (some (.int (0 : Int32)))) h)) : WP d mX7_termAt 5 [some (.ref v0), some (.int v1), u2] [.ref s0] h Q := by
  refine w_astore_n (lo' := [some (.ref v0), some (.int v1), some (.ref s0)]) dX7_termAt_5 (ltQ rfl) rfl ?_
  refine w_aload_n dX7_termAt_6 rfl ?_
  refine w_ifnonnull (pc' := 14) dX7_termAt_7 rfl rfl ⟨fun c => ?_, fun c => ?_⟩
  · replace k := k.1 c
    refine w_aload_n dX7_termAt_14 rfl ?_
    obtain ⟨g1, k⟩ := k
    refine w_getI dX7_termAt_15 f_7_25 t_3_0 g1 ?_
    exact w_ireturn dX7_termAt_18 rfl k
  · replace k := k.2 c
    refine w_iconst dX7_termAt_10 i1_0 ?_
    refine w_goto (pc' := 18) dX7_termAt_11 rfl rfl ?_
    exact w_ireturn dX7_termAt_18 rfl k
theorem bX7_put_0 {d : Nat} {h : HP} {Q : Out → HP → Prop} {v0 : Nat} {v1 : Nat} (k : (hK h v0 = 7) ∧ ((((30 : Int32) ≤ (hI h 701 v0)) → Q (.inl none) h) ∧ ((¬ ((30 : Int32) ≤ (hI h 701 v0))) → (25 ≤ hK h (hR h 700 v0) ∧ hK h (hR h 700 v0) ≤ 29) ∧ ((inA h (hR h 700 v0) (hI h 701 v0) = true) ∧ ((1 < v1 ∧ hK h v1 = acl (hK h (hR h 700 v0) - 25)) ∧ (Q (.inl none) (sI (sAR h (hR h 700 v0) ((hI h 701 v0)).toNatClampNeg v1) 701 v0 ((hI h 701 v0) + (1 : Int32))))))))) : WP d mX7_put 0 [some (.ref v0), some (.ref v1)] [] h Q := by
  refine w_aload_n dX7_put_0 rfl ?_
  obtain ⟨g1, k⟩ := k
  refine w_getI dX7_put_1 f_7_17 t_7_1 g1 ?_
  refine w_bipush dX7_put_4 i2_30 ?_
  refine w_ic_ge (pc' := 29) dX7_put_6 rfl rfl ⟨fun c => ?_, fun c => ?_⟩
  · replace k := k.1 c
    exact w_return dX7_put_29 rfl k
  · replace k := k.2 c
    refine w_aload_n dX7_put_9 rfl ?_
    refine w_getR dX7_put_10 f_7_11 t_7_0 g1 ?_
    refine w_aload_n dX7_put_13 rfl ?_
    refine w_getI dX7_put_14 f_7_17 t_7_1 g1 ?_
    refine w_aload_n dX7_put_17 rfl ?_
    obtain ⟨g2, k⟩ := k
    obtain ⟨g3, k⟩ := k
    obtain ⟨g4, k⟩ := k
    refine w_aastore dX7_put_18 rfl g3 g2.1 g2.2 g4.1 g4.2 ?_
    refine w_aload_n dX7_put_19 rfl ?_
    refine w_dup dX7_put_20 rfl ?_
    refine w_getI dX7_put_21 f_7_17 t_7_1 g1 ?_
    refine w_iconst dX7_put_24 i1_1 ?_
    refine w_iadd dX7_put_25 ?_
    refine w_putI dX7_put_26 f_7_17 t_7_1 (pf_nf n_7_1) g1 ?_
    exact w_return dX7_put_29 rfl k
theorem bX7_cutBehind_0 {d : Nat} {h : HP} {Q : Out → HP → Prop} {v0 : Nat} {v1 : Int32} (k : ((v1 < 0) → Q (.inl none) h) ∧ ((¬ (v1 < 0)) → (hK h v0 = 7) ∧ ((((hI h 701 v0) ≤ v1) → Q (.inl none) h) ∧ ((¬ ((hI h 701 v0) ≤ v1)) → Q (.inl none) (sI h 701 v0 v1))))) : WP d mX7_cutBehind 0 [some (.ref v0), some (.int v1)] [] h Q := by
  refine w_iload_n dX7_cutBehind_0 rfl ?_
  refine w_if_lt (pc' := 17) dX7_cutBehind_1 rfl rfl ⟨fun c => ?_, fun c => ?_⟩
  · replace k := k.1 c
    exact w_return dX7_cutBehind_17 rfl k
  · replace k := k.2 c
    refine w_iload_n dX7_cutBehind_4 rfl ?_
    refine w_aload_n dX7_cutBehind_5 rfl ?_
    obtain ⟨g1, k⟩ := k
    refine w_getI dX7_cutBehind_6 f_7_17 t_7_1 g1 ?_
    refine w_ic_ge (pc' := 17) dX7_cutBehind_9 rfl rfl ⟨fun c => ?_, fun c => ?_⟩
    · replace k := k.1 c
      exact w_return dX7_cutBehind_17 rfl k
    · replace k := k.2 c
      refine w_aload_n dX7_cutBehind_12 rfl ?_
      refine w_iload_n dX7_cutBehind_13 rfl ?_
      refine w_putI dX7_cutBehind_14 f_7_17 t_7_1 (pf_nf n_7_1) g1 ?_
      exact w_return dX7_cutBehind_17 rfl k
theorem bX7_numberOf_0 {d : Nat} {h : HP} {Q : Out → HP → Prop} {v0 : Nat} {v1 : Int32} {v2 : Int32} {u3 : Option Value} (k : WP d mX7_numberOf 2 [some (.ref v0), some (.int v1), some (.int v2), some (.int (0 : Int32))] [] h Q) : WP d mX7_numberOf 0 [some (.ref v0), some (.int v1), some (.int v2), u3] [] h Q := by
  refine w_iconst dX7_numberOf_0 i1_0 ?_
  refine w_istore_n (lo' := [some (.ref v0), some (.int v1), some (.int v2), some (.int (0 : Int32))]) dX7_numberOf_1 (ltQ rfl) rfl ?_
  exact k
theorem bX7_numberOf_2 {d : Nat} {h : HP} {Q : Out → HP → Prop} {v0 : Nat} {v1 : Int32} {v2 : Int32} {v3 : Int32} (k : (hK h v0 = 7) ∧ ((((hI h 701 v0) ≤ v3) → Q (.inl (some (.int (0 : Int32)))) h) ∧ ((¬ ((hI h 701 v0) ≤ v3)) → (25 ≤ hK h (hR h 700 v0) ∧ hK h (hR h 700 v0) ≤ 29) ∧ ((inA h (hR h 700 v0) v3 = true) ∧ ((hK h (hAR h (hR h 700 v0) (v3).toNatClampNeg) = 3) ∧ (((¬ (hI h 301 (hAR h (hR h 700 v0) (v3).toNatClampNeg)) = v1) → WP d mX7_numberOf 2 [some (.ref v0), some (.int v1), some (.int v2), some (.int (v3 + (1 : Int32)))] [] h Q) ∧ ((¬ (¬ (hI h 301 (hAR h (hR h 700 v0) (v3).toNatClampNeg)) = v1)) → ((¬ (hI h 302 (hAR h (hR h 700 v0) (v3).toNatClampNeg)) = v2) → WP d mX7_numberOf 2 [some (.ref v0), some (.int v1), some (.int v2), some (.int (v3 + (1 : Int32)))] [] h Q) ∧ ((¬ (¬ (hI h 302 (hAR h (hR h 700 v0) (v3).toNatClampNeg)) = v2)) → Q (.inl (some (.int (v3 + (1 : Int32))))) h)))))))) : WP d mX7_numberOf 2 [some (.ref v0), some (.int v1), some (.int v2), some (.int v3)] [] h Q := by
  refine w_iload_n dX7_numberOf_2 rfl ?_
  refine w_aload_n dX7_numberOf_3 rfl ?_
  obtain ⟨g1, k⟩ := k
  refine w_getI dX7_numberOf_4 f_7_17 t_7_1 g1 ?_
  refine w_ic_ge (pc' := 46) dX7_numberOf_7 rfl rfl ⟨fun c => ?_, fun c => ?_⟩
  · replace k := k.1 c
    refine w_iconst dX7_numberOf_46 i1_0 ?_
    exact w_ireturn dX7_numberOf_47 rfl k
  · replace k := k.2 c
    refine w_aload_n dX7_numberOf_10 rfl ?_
    refine w_getR dX7_numberOf_11 f_7_11 t_7_0 g1 ?_
    refine w_iload_n dX7_numberOf_14 rfl ?_
    obtain ⟨g2, k⟩ := k
    obtain ⟨g3, k⟩ := k
    refine w_aaload dX7_numberOf_15 rfl g3 g2.1 g2.2 ?_
    obtain ⟨g4, k⟩ := k
    refine w_getI dX7_numberOf_16 f_7_28 t_3_1 g4 ?_
    refine w_iload_n dX7_numberOf_19 rfl ?_
    refine w_ic_ne (pc' := 40) dX7_numberOf_20 rfl rfl ⟨fun c => ?_, fun c => ?_⟩
    · replace k := k.1 c
      refine w_iinc (lo' := [some (.ref v0), some (.int v1), some (.int v2), some (.int (v3 + (1 : Int32)))]) dX7_numberOf_40 rfl i1_1 rfl ?_
      refine w_goto (pc' := 2) dX7_numberOf_43 rfl rfl ?_
      exact k
    · replace k := k.2 c
      refine w_aload_n dX7_numberOf_23 rfl ?_
      refine w_getR dX7_numberOf_24 f_7_11 t_7_0 g1 ?_
      refine w_iload_n dX7_numberOf_27 rfl ?_
      refine w_aaload dX7_numberOf_28 rfl g3 g2.1 g2.2 ?_
      refine w_getI dX7_numberOf_29 f_7_31 t_3_2 g4 ?_
      refine w_iload_n dX7_numberOf_32 rfl ?_
      refine w_ic_ne (pc' := 40) dX7_numberOf_33 rfl rfl ⟨fun c => ?_, fun c => ?_⟩
      · replace k := k.1 c
        refine w_iinc (lo' := [some (.ref v0), some (.int v1), some (.int v2), some (.int (v3 + (1 : Int32)))]) dX7_numberOf_40 rfl i1_1 rfl ?_
        refine w_goto (pc' := 2) dX7_numberOf_43 rfl rfl ?_
        exact k
      · replace k := k.2 c
        refine w_iload_n dX7_numberOf_36 rfl ?_
        refine w_iconst dX7_numberOf_37 i1_1 ?_
        refine w_iadd dX7_numberOf_38 ?_
        exact w_ireturn dX7_numberOf_39 rfl k
theorem bX7_hasSerial_0 {d : Nat} {h : HP} {Q : Out → HP → Prop} {v0 : Nat} {v1 : Int32} {v2 : Int32} (k : (hK h v0 = 7) ∧ ((1 < v0) ∧ (WP d mX7_isOutdone 0 [some (.ref v0), some (.int v1), some (.int v2), some (.int (hI h 701 v0)), none] [] h (KK d mX7_hasSerial mX7_isOutdone 7 [some (.ref v0), some (.int v1), some (.int v2)] [] Q)))) : WP (d + 1) mX7_hasSerial 0 [some (.ref v0), some (.int v1), some (.int v2)] [] h Q := by
  refine w_aload_n dX7_hasSerial_0 rfl ?_
  refine w_iload_n dX7_hasSerial_1 rfl ?_
  refine w_iload_n dX7_hasSerial_2 rfl ?_
  refine w_aload_n dX7_hasSerial_3 rfl ?_
  obtain ⟨g1, k⟩ := k
  refine w_getI dX7_hasSerial_4 f_7_17 t_7_1 g1 ?_
  obtain ⟨g2, k⟩ := k
  exact w_virt (as1 := [.int (hI h 701 v0), .int v2, .int v1, .ref v0]) (as2 := [.ref v0, .int v1, .int v2, .int (hI h 701 v0)]) (rest := []) (lo2 := [some (.ref v0), some (.int v1), some (.int v2), some (.int (hI h 701 v0)), none]) dX7_hasSerial_7 c_7_34 rfl rfl rfl (Nat.le_of_ble_eq_true rfl) (Nat.le_of_ble_eq_true rfl) rfl (Nat.le_of_ble_eq_true rfl) rfl rfl g2 g1 k
theorem bX7_hasSerial_10 {d : Nat} {h : HP} {Q : Out → HP → Prop} {v0 : Nat} {v1 : Int32} {v2 : Int32} {s0 : Int32} (k : (isZ s0 = true) ∧ (Q (.inl (some (.int s0))) h)) : WP d mX7_hasSerial 10 [some (.ref v0), some (.int v1), some (.int v2)] [.int s0] h Q := by
  obtain ⟨g1, k⟩ := k
  exact w_ireturn dX7_hasSerial_10 g1 k
theorem bX7_valueUpTo_0 {d : Nat} {h : HP} {Q : Out → HP → Prop} {v0 : Nat} {v1 : Int32} {u2 : Option Value} {u3 : Option Value} (k : (hK h v0 = 7) ∧ (WP d mX7_valueUpTo 9 [some (.ref v0), some (.int v1), some (.int (if (hI h 701 v0) < v1 then (hI h 701 v0) else v1)), u3] [] h Q)) : WP d mX7_valueUpTo 0 [some (.ref v0), some (.int v1), u2, u3] [] h Q := by
  refine w_iload_n dX7_valueUpTo_0 rfl ?_
  refine w_aload_n dX7_valueUpTo_1 rfl ?_
  obtain ⟨g1, k⟩ := k
  refine w_getI dX7_valueUpTo_2 f_7_17 t_7_1 g1 ?_
  refine w_min dX7_valueUpTo_5 c_7_38 (Nat.le_of_ble_eq_true rfl) rfl ?_
  refine w_istore_n (lo' := [some (.ref v0), some (.int v1), some (.int (if (hI h 701 v0) < v1 then (hI h 701 v0) else v1)), u3]) dX7_valueUpTo_8 (ltQ rfl) rfl ?_
  exact k
theorem bX7_valueUpTo_9 {d : Nat} {h : HP} {Q : Out → HP → Prop} {v0 : Nat} {v1 : Int32} {v2 : Int32} {u3 : Option Value} (k : ((v2 < (1 : Int32)) → Q (.inl (some (.int (0 : Int32)))) h) ∧ ((¬ (v2 < (1 : Int32))) → (hK h v0 = 7) ∧ ((25 ≤ hK h (hR h 700 v0) ∧ hK h (hR h 700 v0) ≤ 29) ∧ ((inA h (hR h 700 v0) (v2 - (1 : Int32)) = true) ∧ ((hK h (hAR h (hR h 700 v0) ((v2 - (1 : Int32))).toNatClampNeg) = 3) ∧ ((1 < v0) ∧ (WP d mX7_isOutdone 0 [some (.ref v0), some (.int (hI h 301 (hAR h (hR h 700 v0) ((v2 - (1 : Int32))).toNatClampNeg))), some (.int (hI h 302 (hAR h (hR h 700 v0) ((v2 - (1 : Int32))).toNatClampNeg))), some (.int (v2 - (1 : Int32))), none] [] h (KK d mX7_valueUpTo mX7_isOutdone 35 [some (.ref v0), some (.int v1), some (.int v2), some (.ref (hAR h (hR h 700 v0) ((v2 - (1 : Int32))).toNatClampNeg))] [] Q)))))))) : WP (d + 1) mX7_valueUpTo 9 [some (.ref v0), some (.int v1), some (.int v2), u3] [] h Q := by
  refine w_iload_n dX7_valueUpTo_9 rfl ?_
  refine w_iconst dX7_valueUpTo_10 i1_1 ?_
  refine w_ic_lt (pc' := 52) dX7_valueUpTo_11 rfl rfl ⟨fun c => ?_, fun c => ?_⟩
  · replace k := k.1 c
    refine w_iconst dX7_valueUpTo_52 i1_0 ?_
    exact w_ireturn dX7_valueUpTo_53 rfl k
  · replace k := k.2 c
    refine w_aload_n dX7_valueUpTo_14 rfl ?_
    obtain ⟨g1, k⟩ := k
    refine w_getR dX7_valueUpTo_15 f_7_11 t_7_0 g1 ?_
    refine w_iload_n dX7_valueUpTo_18 rfl ?_
    refine w_iconst dX7_valueUpTo_19 i1_1 ?_
    refine w_isub dX7_valueUpTo_20 ?_
    obtain ⟨g2, k⟩ := k
    obtain ⟨g3, k⟩ := k
    refine w_aaload dX7_valueUpTo_21 rfl g3 g2.1 g2.2 ?_
    refine w_astore_n (lo' := [some (.ref v0), some (.int v1), some (.int v2), some (.ref (hAR h (hR h 700 v0) ((v2 - (1 : Int32))).toNatClampNeg))]) dX7_valueUpTo_22 (ltQ rfl) rfl ?_
    refine w_aload_n dX7_valueUpTo_23 rfl ?_
    refine w_aload_n dX7_valueUpTo_24 rfl ?_
    obtain ⟨g4, k⟩ := k
    refine w_getI dX7_valueUpTo_25 f_7_28 t_3_1 g4 ?_
    refine w_aload_n dX7_valueUpTo_28 rfl ?_
    refine w_getI dX7_valueUpTo_29 f_7_31 t_3_2 g4 ?_
    refine w_iload_n dX7_valueUpTo_32 rfl ?_
    refine w_iconst dX7_valueUpTo_33 i1_1 ?_
    refine w_isub dX7_valueUpTo_34 ?_
    obtain ⟨g5, k⟩ := k
    exact w_virt (as1 := [.int (v2 - (1 : Int32)), .int (hI h 302 (hAR h (hR h 700 v0) ((v2 - (1 : Int32))).toNatClampNeg)), .int (hI h 301 (hAR h (hR h 700 v0) ((v2 - (1 : Int32))).toNatClampNeg)), .ref v0]) (as2 := [.ref v0, .int (hI h 301 (hAR h (hR h 700 v0) ((v2 - (1 : Int32))).toNatClampNeg)), .int (hI h 302 (hAR h (hR h 700 v0) ((v2 - (1 : Int32))).toNatClampNeg)), .int (v2 - (1 : Int32))]) (rest := []) (lo2 := [some (.ref v0), some (.int (hI h 301 (hAR h (hR h 700 v0) ((v2 - (1 : Int32))).toNatClampNeg))), some (.int (hI h 302 (hAR h (hR h 700 v0) ((v2 - (1 : Int32))).toNatClampNeg))), some (.int (v2 - (1 : Int32))), none]) dX7_valueUpTo_35 c_7_34 rfl rfl rfl (Nat.le_of_ble_eq_true rfl) (Nat.le_of_ble_eq_true rfl) rfl (Nat.le_of_ble_eq_true rfl) rfl rfl g5 g1 k
theorem bX7_valueUpTo_38 {d : Nat} {h : HP} {Q : Out → HP → Prop} {v0 : Nat} {v1 : Int32} {v2 : Int32} {v3 : Nat} {s0 : Int32} (k : ((¬ s0 = 0) → WP d mX7_valueUpTo 9 [some (.ref v0), some (.int v1), some (.int (v2 + (-1 : Int32))), some (.ref v3)] [] h Q) ∧ ((¬ (¬ s0 = 0)) → (hK h v3 = 3) ∧ (Q (.inl (some (.int (hI h 303 v3)))) h))) : WP d mX7_valueUpTo 38 [some (.ref v0), some (.int v1), some (.int v2), some (.ref v3)] [.int s0] h Q := by
  refine w_if_ne (pc' := 46) dX7_valueUpTo_38 rfl rfl ⟨fun c => ?_, fun c => ?_⟩
  · replace k := k.1 c
    refine w_iinc (lo' := [some (.ref v0), some (.int v1), some (.int (v2 + (-1 : Int32))), some (.ref v3)]) dX7_valueUpTo_46 rfl i1_m1 rfl ?_
    refine w_goto (pc' := 9) dX7_valueUpTo_49 rfl rfl ?_
    exact k
  · replace k := k.2 c
    refine w_aload_n dX7_valueUpTo_41 rfl ?_
    obtain ⟨g1, k⟩ := k
    refine w_getI dX7_valueUpTo_42 f_7_44 t_3_3 g1 ?_
    exact w_ireturn dX7_valueUpTo_45 rfl k
theorem bX7_isLikeUpTo_0 {d : Nat} {h : HP} {Q : Out → HP → Prop} {v0 : Nat} {v1 : Nat} {v2 : Int32} {u3 : Option Value} {u4 : Option Value} (k : (hK h v0 = 7) ∧ ((hK h v1 = 7) ∧ (WP d mX7_isLikeUpTo 19 [some (.ref v0), some (.ref v1), some (.int v2), some (.int (if (if (hI h 701 v1) < (hI h 701 v0) then (hI h 701 v1) else (hI h 701 v0)) < v2 then (if (hI h 701 v1) < (hI h 701 v0) then (hI h 701 v1) else (hI h 701 v0)) else v2)), some (.int (0 : Int32))] [] h Q))) : WP d mX7_isLikeUpTo 0 [some (.ref v0), some (.ref v1), some (.int v2), u3, u4] [] h Q := by
  refine w_iload_n dX7_isLikeUpTo_0 rfl ?_
  refine w_aload_n dX7_isLikeUpTo_1 rfl ?_
  obtain ⟨g1, k⟩ := k
  refine w_getI dX7_isLikeUpTo_2 f_7_17 t_7_1 g1 ?_
  refine w_aload_n dX7_isLikeUpTo_5 rfl ?_
  obtain ⟨g2, k⟩ := k
  refine w_getI dX7_isLikeUpTo_6 f_7_17 t_7_1 g2 ?_
  refine w_min dX7_isLikeUpTo_9 c_7_38 (Nat.le_of_ble_eq_true rfl) rfl ?_
  refine w_min dX7_isLikeUpTo_12 c_7_38 (Nat.le_of_ble_eq_true rfl) rfl ?_
  refine w_istore_n (lo' := [some (.ref v0), some (.ref v1), some (.int v2), some (.int (if (if (hI h 701 v1) < (hI h 701 v0) then (hI h 701 v1) else (hI h 701 v0)) < v2 then (if (hI h 701 v1) < (hI h 701 v0) then (hI h 701 v1) else (hI h 701 v0)) else v2)), u4]) dX7_isLikeUpTo_15 (ltQ rfl) rfl ?_
  refine w_iconst dX7_isLikeUpTo_16 i1_0 ?_
  refine w_istore (lo' := [some (.ref v0), some (.ref v1), some (.int v2), some (.int (if (if (hI h 701 v1) < (hI h 701 v0) then (hI h 701 v1) else (hI h 701 v0)) < v2 then (if (hI h 701 v1) < (hI h 701 v0) then (hI h 701 v1) else (hI h 701 v0)) else v2)), some (.int (0 : Int32))]) dX7_isLikeUpTo_17 (ltQ rfl) rfl ?_
  exact k
theorem bX7_isLikeUpTo_19 {d : Nat} {h : HP} {Q : Out → HP → Prop} {v0 : Nat} {v1 : Nat} {v2 : Int32} {v3 : Int32} {v4 : Int32} (k : ((v3 ≤ v4) → Q (.inl (some (.int (1 : Int32)))) h) ∧ ((¬ (v3 ≤ v4)) → (hK h v0 = 7) ∧ ((25 ≤ hK h (hR h 700 v0) ∧ hK h (hR h 700 v0) ≤ 29) ∧ ((inA h (hR h 700 v0) v4 = true) ∧ ((hK h v1 = 7) ∧ ((25 ≤ hK h (hR h 700 v1) ∧ hK h (hR h 700 v1) ≤ 29) ∧ ((inA h (hR h 700 v1) v4 = true) ∧ ((1 < (hAR h (hR h 700 v0) (v4).toNatClampNeg)) ∧ ((hK h (hAR h (hR h 700 v0) (v4).toNatClampNeg) = 3) ∧ (WP d mX3_isLike 0 [some (.ref (hAR h (hR h 700 v0) (v4).toNatClampNeg)), some (.ref (hAR h (hR h 700 v1) (v4).toNatClampNeg))] [] h (KK d mX7_isLikeUpTo mX3_isLike 39 [some (.ref v0), some (.ref v1), some (.int v2), some (.int v3), some (.int v4)] [] Q))))))))))) : WP (d + 1) mX7_isLikeUpTo 19 [some (.ref v0), some (.ref v1), some (.int v2), some (.int v3), some (.int v4)] [] h Q := by
  refine w_iload dX7_isLikeUpTo_19 rfl ?_
  refine w_iload_n dX7_isLikeUpTo_21 rfl ?_
  refine w_ic_ge (pc' := 53) dX7_isLikeUpTo_22 rfl rfl ⟨fun c => ?_, fun c => ?_⟩
  · replace k := k.1 c
    refine w_iconst dX7_isLikeUpTo_53 i1_1 ?_
    exact w_ireturn dX7_isLikeUpTo_54 rfl k
  · replace k := k.2 c
    refine w_aload_n dX7_isLikeUpTo_25 rfl ?_
    obtain ⟨g1, k⟩ := k
    refine w_getR dX7_isLikeUpTo_26 f_7_11 t_7_0 g1 ?_
    refine w_iload dX7_isLikeUpTo_29 rfl ?_
    obtain ⟨g2, k⟩ := k
    obtain ⟨g3, k⟩ := k
    refine w_aaload dX7_isLikeUpTo_31 rfl g3 g2.1 g2.2 ?_
    refine w_aload_n dX7_isLikeUpTo_32 rfl ?_
    obtain ⟨g4, k⟩ := k
    refine w_getR dX7_isLikeUpTo_33 f_7_11 t_7_0 g4 ?_
    refine w_iload dX7_isLikeUpTo_36 rfl ?_
    obtain ⟨g5, k⟩ := k
    obtain ⟨g6, k⟩ := k
    refine w_aaload dX7_isLikeUpTo_38 rfl g6 g5.1 g5.2 ?_
    obtain ⟨g7, k⟩ := k
    obtain ⟨g8, k⟩ := k
    exact w_virt (as1 := [.ref (hAR h (hR h 700 v1) (v4).toNatClampNeg), .ref (hAR h (hR h 700 v0) (v4).toNatClampNeg)]) (as2 := [.ref (hAR h (hR h 700 v0) (v4).toNatClampNeg), .ref (hAR h (hR h 700 v1) (v4).toNatClampNeg)]) (rest := []) (lo2 := [some (.ref (hAR h (hR h 700 v0) (v4).toNatClampNeg)), some (.ref (hAR h (hR h 700 v1) (v4).toNatClampNeg))]) dX7_isLikeUpTo_39 c_7_47 rfl rfl rfl (Nat.le_of_ble_eq_true rfl) (Nat.le_of_ble_eq_true rfl) rfl (Nat.le_of_ble_eq_true rfl) rfl rfl g7 g8 k
theorem bX7_isLikeUpTo_42 {d : Nat} {h : HP} {Q : Out → HP → Prop} {v0 : Nat} {v1 : Nat} {v2 : Int32} {v3 : Int32} {v4 : Int32} {s0 : Int32} (k : ((¬ s0 = 0) → WP d mX7_isLikeUpTo 19 [some (.ref v0), some (.ref v1), some (.int v2), some (.int v3), some (.int (v4 + (1 : Int32)))] [] h Q) ∧ ((¬ (¬ s0 = 0)) → Q (.inl (some (.int (0 : Int32)))) h)) : WP d mX7_isLikeUpTo 42 [some (.ref v0), some (.ref v1), some (.int v2), some (.int v3), some (.int v4)] [.int s0] h Q := by
  refine w_if_ne (pc' := 47) dX7_isLikeUpTo_42 rfl rfl ⟨fun c => ?_, fun c => ?_⟩
  · replace k := k.1 c
    refine w_iinc (lo' := [some (.ref v0), some (.ref v1), some (.int v2), some (.int v3), some (.int (v4 + (1 : Int32)))]) dX7_isLikeUpTo_47 rfl i1_1 rfl ?_
    refine w_goto (pc' := 19) dX7_isLikeUpTo_50 rfl rfl ?_
    exact k
  · replace k := k.2 c
    refine w_iconst dX7_isLikeUpTo_45 i1_0 ?_
    exact w_ireturn dX7_isLikeUpTo_46 rfl k
theorem bX7_isOutdone_0 {d : Nat} {h : HP} {Q : Out → HP → Prop} {v0 : Nat} {v1 : Int32} {v2 : Int32} {v3 : Int32} {u4 : Option Value} (k : WP d mX7_isOutdone 3 [some (.ref v0), some (.int v1), some (.int v2), some (.int v3), some (.int (0 : Int32))] [] h Q) : WP d mX7_isOutdone 0 [some (.ref v0), some (.int v1), some (.int v2), some (.int v3), u4] [] h Q := by
  refine w_iconst dX7_isOutdone_0 i1_0 ?_
  refine w_istore (lo' := [some (.ref v0), some (.int v1), some (.int v2), some (.int v3), some (.int (0 : Int32))]) dX7_isOutdone_1 (ltQ rfl) rfl ?_
  exact k
theorem bX7_isOutdone_3 {d : Nat} {h : HP} {Q : Out → HP → Prop} {v0 : Nat} {v1 : Int32} {v2 : Int32} {v3 : Int32} {v4 : Int32} (k : ((v3 ≤ v4) → Q (.inl (some (.int (0 : Int32)))) h) ∧ ((¬ (v3 ≤ v4)) → (hK h v0 = 7) ∧ ((((hI h 701 v0) ≤ v4) → Q (.inl (some (.int (0 : Int32)))) h) ∧ ((¬ ((hI h 701 v0) ≤ v4)) → (25 ≤ hK h (hR h 700 v0) ∧ hK h (hR h 700 v0) ≤ 29) ∧ ((inA h (hR h 700 v0) v4 = true) ∧ ((1 < (hAR h (hR h 700 v0) (v4).toNatClampNeg)) ∧ ((hK h (hAR h (hR h 700 v0) (v4).toNatClampNeg) = 3) ∧ (WP d mX3_outdoes 0 [some (.ref (hAR h (hR h 700 v0) (v4).toNatClampNeg)), some (.int v1), some (.int v2)] [] h (KK d mX7_isOutdone mX3_outdoes 27 [some (.ref v0), some (.int v1), some (.int v2), some (.int v3), some (.int v4)] [] Q))))))))) : WP (d + 1) mX7_isOutdone 3 [some (.ref v0), some (.int v1), some (.int v2), some (.int v3), some (.int v4)] [] h Q := by
  refine w_iload dX7_isOutdone_3 rfl ?_
  refine w_iload_n dX7_isOutdone_5 rfl ?_
  refine w_ic_ge (pc' := 41) dX7_isOutdone_6 rfl rfl ⟨fun c => ?_, fun c => ?_⟩
  · replace k := k.1 c
    refine w_iconst dX7_isOutdone_41 i1_0 ?_
    exact w_ireturn dX7_isOutdone_42 rfl k
  · replace k := k.2 c
    refine w_iload dX7_isOutdone_9 rfl ?_
    refine w_aload_n dX7_isOutdone_11 rfl ?_
    obtain ⟨g1, k⟩ := k
    refine w_getI dX7_isOutdone_12 f_7_17 t_7_1 g1 ?_
    refine w_ic_ge (pc' := 41) dX7_isOutdone_15 rfl rfl ⟨fun c => ?_, fun c => ?_⟩
    · replace k := k.1 c
      refine w_iconst dX7_isOutdone_41 i1_0 ?_
      exact w_ireturn dX7_isOutdone_42 rfl k
    · replace k := k.2 c
      refine w_aload_n dX7_isOutdone_18 rfl ?_
      refine w_getR dX7_isOutdone_19 f_7_11 t_7_0 g1 ?_
      refine w_iload dX7_isOutdone_22 rfl ?_
      obtain ⟨g2, k⟩ := k
      obtain ⟨g3, k⟩ := k
      refine w_aaload dX7_isOutdone_24 rfl g3 g2.1 g2.2 ?_
      refine w_iload_n dX7_isOutdone_25 rfl ?_
      refine w_iload_n dX7_isOutdone_26 rfl ?_
      obtain ⟨g4, k⟩ := k
      obtain ⟨g5, k⟩ := k
      exact w_virt (as1 := [.int v2, .int v1, .ref (hAR h (hR h 700 v0) (v4).toNatClampNeg)]) (as2 := [.ref (hAR h (hR h 700 v0) (v4).toNatClampNeg), .int v1, .int v2]) (rest := []) (lo2 := [some (.ref (hAR h (hR h 700 v0) (v4).toNatClampNeg)), some (.int v1), some (.int v2)]) dX7_isOutdone_27 c_7_51 rfl rfl rfl (Nat.le_of_ble_eq_true rfl) (Nat.le_of_ble_eq_true rfl) rfl (Nat.le_of_ble_eq_true rfl) rfl rfl g4 g5 k
theorem bX7_isOutdone_30 {d : Nat} {h : HP} {Q : Out → HP → Prop} {v0 : Nat} {v1 : Int32} {v2 : Int32} {v3 : Int32} {v4 : Int32} {s0 : Int32} (k : ((s0 = 0) → WP d mX7_isOutdone 3 [some (.ref v0), some (.int v1), some (.int v2), some (.int v3), some (.int (v4 + (1 : Int32)))] [] h Q) ∧ ((¬ (s0 = 0)) → Q (.inl (some (.int (1 : Int32)))) h)) : WP d mX7_isOutdone 30 [some (.ref v0), some (.int v1), some (.int v2), some (.int v3), some (.int v4)] [.int s0] h Q := by
  refine w_if_eq (pc' := 35) dX7_isOutdone_30 rfl rfl ⟨fun c => ?_, fun c => ?_⟩
  · replace k := k.1 c
    refine w_iinc (lo' := [some (.ref v0), some (.int v1), some (.int v2), some (.int v3), some (.int (v4 + (1 : Int32)))]) dX7_isOutdone_35 rfl i1_1 rfl ?_
    refine w_goto (pc' := 3) dX7_isOutdone_38 rfl rfl ?_
    exact k
  · replace k := k.2 c
    refine w_iconst dX7_isOutdone_33 i1_1 ?_
    exact w_ireturn dX7_isOutdone_34 rfl k
theorem bX8_init_0 {d : Nat} {h : HP} {Q : Out → HP → Prop} {v0 : Nat} {v1 : Int32} {u2 : Option Value} (k : (1 < v0) ∧ ((1 < (hN h)) ∧ (WP d mX7_init 0 [some (.ref (hN h))] [] (nw h 7 0 2) (KK d mX8_init mX7_init 9 [some (.ref v0), some (.int v1), u2] [.ref (hN h), .ref v0] Q)))) : WP (d + 1) mX8_init 0 [some (.ref v0), some (.int v1), u2] [] h Q := by
  refine w_aload_n dX8_init_0 rfl ?_
  obtain ⟨g1, k⟩ := k
  refine w_obj dX8_init_1 c_8_3 (Nat.le_of_ble_eq_true rfl) rfl g1 ?_
  refine w_aload_n dX8_init_4 rfl ?_
  refine w_new dX8_init_5 nr_8_9 ?_
  refine w_dup dX8_init_8 rfl ?_
  obtain ⟨g2, k⟩ := k
  exact w_nest (as1 := [.ref (hN h)]) (as2 := [.ref (hN h)]) (rest := [.ref (hN h), .ref v0]) (lo2 := [some (.ref (hN h))]) dX8_init_9 c_8_11 rfl rfl rfl (Nat.le_of_ble_eq_true rfl) (Nat.le_of_ble_eq_true rfl) rfl (Nat.le_of_ble_eq_true rfl) rfl rfl g2 k
theorem bX8_init_12 {d : Nat} {h : HP} {Q : Out → HP → Prop} {v0 : Nat} {v1 : Int32} {u2 : Option Value} {s0 : Nat} {s1 : Nat} (k : (hK h s1 = 8) ∧ ((1 < (hN h)) ∧ (WP d mX5_init 0 [some (.ref (hN h))] [] (nw (sR h 801 s1 s0) 5 0 6) (KK d mX8_init mX5_init 20 [some (.ref v0), some (.int v1), u2] [.ref (hN h), .ref v0] Q)))) : WP (d + 1) mX8_init 12 [some (.ref v0), some (.int v1), u2] [.ref s0, .ref s1] h Q := by
  obtain ⟨g1, k⟩ := k
  refine w_putR dX8_init_12 f_8_12 t_8_1 (pf_in rfl rfl) g1 ?_
  refine w_aload_n dX8_init_15 rfl ?_
  refine w_new dX8_init_16 nr_8_18 ?_
  refine w_dup dX8_init_19 rfl ?_
  obtain ⟨g2, k⟩ := k
  exact w_nest (as1 := [.ref (hN h)]) (as2 := [.ref (hN h)]) (rest := [.ref (hN h), .ref v0]) (lo2 := [some (.ref (hN h))]) dX8_init_20 c_8_20 rfl rfl rfl (Nat.le_of_ble_eq_true rfl) (Nat.le_of_ble_eq_true rfl) rfl (Nat.le_of_ble_eq_true rfl) rfl rfl g2 k
theorem bX8_init_23 {d : Nat} {h : HP} {Q : Out → HP → Prop} {v0 : Nat} {v1 : Int32} {u2 : Option Value} {s0 : Nat} {s1 : Nat} (k : (hK h s1 = 8) ∧ ((hK (nw (sR h 802 s1 s0) 28 4 4) v0 = 8) ∧ ((hK (sR (nw (sR h 802 s1 s0) 28 4 4) 803 v0 (hN h)) v0 = 8) ∧ (WP d mX8_init 41 [some (.ref v0), some (.int v1), some (.int (0 : Int32))] [] (sI (sR (nw (sR h 802 s1 s0) 28 4 4) 803 v0 (hN h)) 800 v0 v1) Q)))) : WP d mX8_init 23 [some (.ref v0), some (.int v1), u2] [.ref s0, .ref s1] h Q := by
  obtain ⟨g1, k⟩ := k
  refine w_putR dX8_init_23 f_8_21 t_8_2 (pf_in rfl rfl) g1 ?_
  refine w_aload_n dX8_init_26 rfl ?_
  refine w_iconst dX8_init_27 i1_4 ?_
  refine w_anew (m := 4) dX8_init_28 (by decide) (by decide) (by decide) ar_8_25 ?_
  obtain ⟨g2, k⟩ := k
  refine w_putR dX8_init_31 f_8_27 t_8_3 (pf_in rfl rfl) g2 ?_
  refine w_aload_n dX8_init_34 rfl ?_
  refine w_iload_n dX8_init_35 rfl ?_
  obtain ⟨g3, k⟩ := k
  refine w_putI dX8_init_36 f_8_31 t_8_0 (pf_in rfl rfl) g3 ?_
  refine w_iconst dX8_init_39 i1_0 ?_
  refine w_istore_n (lo' := [some (.ref v0), some (.int v1), some (.int (0 : Int32))]) dX8_init_40 (ltQ rfl) rfl ?_
  exact k
theorem bX8_init_41 {d : Nat} {h : HP} {Q : Out → HP → Prop} {v0 : Nat} {v1 : Int32} {v2 : Int32} (k : (((4 : Int32) ≤ v2) → Q (.inl none) h) ∧ ((¬ ((4 : Int32) ≤ v2)) → (hK h v0 = 8) ∧ ((1 < (hN h)) ∧ (WP d mX2_init 0 [some (.ref (hN h))] [] (nw h 2 0 10) (KK d mX8_init mX2_init 55 [some (.ref v0), some (.int v1), some (.int v2)] [.ref (hN h), .int v2, .ref (hR h 803 v0)] Q))))) : WP (d + 1) mX8_init 41 [some (.ref v0), some (.int v1), some (.int v2)] [] h Q := by
  refine w_iload_n dX8_init_41 rfl ?_
  refine w_iconst dX8_init_42 i1_4 ?_
  refine w_ic_ge (pc' := 65) dX8_init_43 rfl rfl ⟨fun c => ?_, fun c => ?_⟩
  · replace k := k.1 c
    exact w_return dX8_init_65 rfl k
  · replace k := k.2 c
    refine w_aload_n dX8_init_46 rfl ?_
    obtain ⟨g1, k⟩ := k
    refine w_getR dX8_init_47 f_8_27 t_8_3 g1 ?_
    refine w_iload_n dX8_init_50 rfl ?_
    refine w_new dX8_init_51 nr_8_25 ?_
    refine w_dup dX8_init_54 rfl ?_
    obtain ⟨g2, k⟩ := k
    exact w_nest (as1 := [.ref (hN h)]) (as2 := [.ref (hN h)]) (rest := [.ref (hN h), .int v2, .ref (hR h 803 v0)]) (lo2 := [some (.ref (hN h))]) dX8_init_55 c_8_35 rfl rfl rfl (Nat.le_of_ble_eq_true rfl) (Nat.le_of_ble_eq_true rfl) rfl (Nat.le_of_ble_eq_true rfl) rfl rfl g2 k
theorem bX8_init_58 {d : Nat} {h : HP} {Q : Out → HP → Prop} {v0 : Nat} {v1 : Int32} {v2 : Int32} {s0 : Nat} {s1 : Int32} {s2 : Nat} (k : (25 ≤ hK h s2 ∧ hK h s2 ≤ 29) ∧ ((inA h s2 s1 = true) ∧ ((1 < s0 ∧ hK h s0 = acl (hK h s2 - 25)) ∧ (WP d mX8_init 41 [some (.ref v0), some (.int v1), some (.int (v2 + (1 : Int32)))] [] (sAR h s2 (s1).toNatClampNeg s0) Q)))) : WP d mX8_init 58 [some (.ref v0), some (.int v1), some (.int v2)] [.ref s0, .int s1, .ref s2] h Q := by
  obtain ⟨g1, k⟩ := k
  obtain ⟨g2, k⟩ := k
  obtain ⟨g3, k⟩ := k
  refine w_aastore dX8_init_58 rfl g2 g1.1 g1.2 g3.1 g3.2 ?_
  refine w_iinc (lo' := [some (.ref v0), some (.int v1), some (.int (v2 + (1 : Int32)))]) dX8_init_59 rfl i1_1 rfl ?_
  refine w_goto (pc' := 41) dX8_init_62 rfl rfl ?_
  exact k
theorem bX8_renew_0 {d : Nat} {h : HP} {Q : Out → HP → Prop} {v0 : Nat} {u1 : Option Value} (k : (hK h v0 = 8) ∧ ((1 < (hR h 801 v0)) ∧ ((hK h (hR h 801 v0) = 7) ∧ (WP d mX7_cutBehind 0 [some (.ref (hR h 801 v0)), some (.int (0 : Int32))] [] (sF (sI (sI (sI (sI (sI (sF (sF (sI h 804 v0 (1 : Int32)) 805 v0 FP.fconst0) 806 v0 FP.fconst1) 808 v0 (0 : Int32)) 809 v0 (-1 : Int32)) 810 v0 (0 : Int32)) 811 v0 (0 : Int32)) 812 v0 (-1 : Int32)) 813 v0 FP.fconst0) (KK d mX8_renew mX7_cutBehind 50 [some (.ref v0), u1] [] Q))))) : WP (d + 1) mX8_renew 0 [some (.ref v0), u1] [] h Q := by
  refine w_aload_n dX8_renew_0 rfl ?_
  refine w_iconst dX8_renew_1 i1_1 ?_
  obtain ⟨g1, k⟩ := k
  refine w_putZ dX8_renew_2 f_8_36 t_8_4 (pf_nf n_8_4) g1 rfl ?_
  refine w_aload_n dX8_renew_5 rfl ?_
  refine w_fconst0 dX8_renew_6 ?_
  refine w_putF dX8_renew_7 f_8_40 t_8_5 (pf_nf n_8_5) g1 ?_
  refine w_aload_n dX8_renew_10 rfl ?_
  refine w_fconst1 dX8_renew_11 ?_
  refine w_putF dX8_renew_12 f_8_44 t_8_6 (pf_nf n_8_6) g1 ?_
  refine w_aload_n dX8_renew_15 rfl ?_
  refine w_iconst dX8_renew_16 i1_0 ?_
  refine w_putI dX8_renew_17 f_8_47 t_8_8 (pf_nf n_8_8) g1 ?_
  refine w_aload_n dX8_renew_20 rfl ?_
  refine w_iconst dX8_renew_21 i1_m1 ?_
  refine w_putI dX8_renew_22 f_8_50 t_8_9 (pf_nf n_8_9) g1 ?_
  refine w_aload_n dX8_renew_25 rfl ?_
  refine w_iconst dX8_renew_26 i1_0 ?_
  refine w_putI dX8_renew_27 f_8_53 t_8_10 (pf_nf n_8_10) g1 ?_
  refine w_aload_n dX8_renew_30 rfl ?_
  refine w_iconst dX8_renew_31 i1_0 ?_
  refine w_putI dX8_renew_32 f_8_56 t_8_11 (pf_nf n_8_11) g1 ?_
  refine w_aload_n dX8_renew_35 rfl ?_
  refine w_iconst dX8_renew_36 i1_m1 ?_
  refine w_putI dX8_renew_37 f_8_59 t_8_12 (pf_nf n_8_12) g1 ?_
  refine w_aload_n dX8_renew_40 rfl ?_
  refine w_fconst0 dX8_renew_41 ?_
  refine w_putF dX8_renew_42 f_8_62 t_8_13 (pf_nf n_8_13) g1 ?_
  refine w_aload_n dX8_renew_45 rfl ?_
  refine w_getR dX8_renew_46 f_8_12 t_8_1 g1 ?_
  refine w_iconst dX8_renew_49 i1_0 ?_
  obtain ⟨g2, k⟩ := k
  obtain ⟨g3, k⟩ := k
  exact w_virt (as1 := [.int (0 : Int32), .ref (hR h 801 v0)]) (as2 := [.ref (hR h 801 v0), .int (0 : Int32)]) (rest := []) (lo2 := [some (.ref (hR h 801 v0)), some (.int (0 : Int32))]) dX8_renew_50 c_8_65 rfl rfl rfl (Nat.le_of_ble_eq_true rfl) (Nat.le_of_ble_eq_true rfl) rfl (Nat.le_of_ble_eq_true rfl) rfl rfl g2 g3 k
theorem bX8_renew_53 {d : Nat} {h : HP} {Q : Out → HP → Prop} {v0 : Nat} {u1 : Option Value} (k : (1 < v0) ∧ ((hK h v0 = 8) ∧ (WP d mX8_follow 0 [some (.ref v0)] [] h (KK d mX8_renew mX8_follow 54 [some (.ref v0), u1] [] Q)))) : WP (d + 1) mX8_renew 53 [some (.ref v0), u1] [] h Q := by
  refine w_aload_n dX8_renew_53 rfl ?_
  obtain ⟨g1, k⟩ := k
  obtain ⟨g2, k⟩ := k
  exact w_virt (as1 := [.ref v0]) (as2 := [.ref v0]) (rest := []) (lo2 := [some (.ref v0)]) dX8_renew_54 c_8_69 rfl rfl rfl (Nat.le_of_ble_eq_true rfl) (Nat.le_of_ble_eq_true rfl) rfl (Nat.le_of_ble_eq_true rfl) rfl rfl g1 g2 k
theorem bX8_renew_57 {d : Nat} {h : HP} {Q : Out → HP → Prop} {v0 : Nat} {u1 : Option Value} (k : WP d mX8_renew 59 [some (.ref v0), some (.int (0 : Int32))] [] h Q) : WP d mX8_renew 57 [some (.ref v0), u1] [] h Q := by
  refine w_iconst dX8_renew_57 i1_0 ?_
  refine w_istore_n (lo' := [some (.ref v0), some (.int (0 : Int32))]) dX8_renew_58 (ltQ rfl) rfl ?_
  exact k
theorem bX8_renew_59 {d : Nat} {h : HP} {Q : Out → HP → Prop} {v0 : Nat} {v1 : Int32} (k : (((4 : Int32) ≤ v1) → Q (.inl none) h) ∧ ((¬ ((4 : Int32) ≤ v1)) → (hK h v0 = 8) ∧ ((25 ≤ hK h (hR h 803 v0) ∧ hK h (hR h 803 v0) ≤ 29) ∧ ((inA h (hR h 803 v0) v1 = true) ∧ ((1 < (hAR h (hR h 803 v0) (v1).toNatClampNeg)) ∧ ((hK h (hAR h (hR h 803 v0) (v1).toNatClampNeg) = 2) ∧ (WP d mX2_renew 0 [some (.ref (hAR h (hR h 803 v0) (v1).toNatClampNeg))] [] h (KK d mX8_renew mX2_renew 70 [some (.ref v0), some (.int v1)] [] Q)))))))) : WP (d + 1) mX8_renew 59 [some (.ref v0), some (.int v1)] [] h Q := by
  refine w_iload_n dX8_renew_59 rfl ?_
  refine w_iconst dX8_renew_60 i1_4 ?_
  refine w_ic_ge (pc' := 79) dX8_renew_61 rfl rfl ⟨fun c => ?_, fun c => ?_⟩
  · replace k := k.1 c
    exact w_return dX8_renew_79 rfl k
  · replace k := k.2 c
    refine w_aload_n dX8_renew_64 rfl ?_
    obtain ⟨g1, k⟩ := k
    refine w_getR dX8_renew_65 f_8_27 t_8_3 g1 ?_
    refine w_iload_n dX8_renew_68 rfl ?_
    obtain ⟨g2, k⟩ := k
    obtain ⟨g3, k⟩ := k
    refine w_aaload dX8_renew_69 rfl g3 g2.1 g2.2 ?_
    obtain ⟨g4, k⟩ := k
    obtain ⟨g5, k⟩ := k
    exact w_virt (as1 := [.ref (hAR h (hR h 803 v0) (v1).toNatClampNeg)]) (as2 := [.ref (hAR h (hR h 803 v0) (v1).toNatClampNeg)]) (rest := []) (lo2 := [some (.ref (hAR h (hR h 803 v0) (v1).toNatClampNeg))]) dX8_renew_70 c_8_72 rfl rfl rfl (Nat.le_of_ble_eq_true rfl) (Nat.le_of_ble_eq_true rfl) rfl (Nat.le_of_ble_eq_true rfl) rfl rfl g4 g5 k
theorem bX8_renew_73 {d : Nat} {h : HP} {Q : Out → HP → Prop} {v0 : Nat} {v1 : Int32} (k : WP d mX8_renew 59 [some (.ref v0), some (.int (v1 + (1 : Int32)))] [] h Q) : WP d mX8_renew 73 [some (.ref v0), some (.int v1)] [] h Q := by
  refine w_iinc (lo' := [some (.ref v0), some (.int (v1 + (1 : Int32)))]) dX8_renew_73 rfl i1_1 rfl ?_
  refine w_goto (pc' := 59) dX8_renew_76 rfl rfl ?_
  exact k
theorem bX8_crash_0 {d : Nat} {h : HP} {Q : Out → HP → Prop} {v0 : Nat} {u1 : Option Value} (k : (hK h v0 = 8) ∧ ((1 < v0) ∧ (WP d mX8_follow 0 [some (.ref v0)] [] (sI (sI h 804 v0 (0 : Int32)) 810 v0 (0 : Int32)) (KK d mX8_crash mX8_follow 11 [some (.ref v0), u1] [] Q)))) : WP (d + 1) mX8_crash 0 [some (.ref v0), u1] [] h Q := by
  refine w_aload_n dX8_crash_0 rfl ?_
  refine w_iconst dX8_crash_1 i1_0 ?_
  obtain ⟨g1, k⟩ := k
  refine w_putZ dX8_crash_2 f_8_36 t_8_4 (pf_nf n_8_4) g1 rfl ?_
  refine w_aload_n dX8_crash_5 rfl ?_
  refine w_iconst dX8_crash_6 i1_0 ?_
  refine w_putI dX8_crash_7 f_8_53 t_8_10 (pf_nf n_8_10) g1 ?_
  refine w_aload_n dX8_crash_10 rfl ?_
  obtain ⟨g2, k⟩ := k
  exact w_virt (as1 := [.ref v0]) (as2 := [.ref v0]) (rest := []) (lo2 := [some (.ref v0)]) dX8_crash_11 c_8_69 rfl rfl rfl (Nat.le_of_ble_eq_true rfl) (Nat.le_of_ble_eq_true rfl) rfl (Nat.le_of_ble_eq_true rfl) rfl rfl g2 g1 k
theorem bX8_crash_14 {d : Nat} {h : HP} {Q : Out → HP → Prop} {v0 : Nat} {u1 : Option Value} (k : WP d mX8_crash 16 [some (.ref v0), some (.int (0 : Int32))] [] h Q) : WP d mX8_crash 14 [some (.ref v0), u1] [] h Q := by
  refine w_iconst dX8_crash_14 i1_0 ?_
  refine w_istore_n (lo' := [some (.ref v0), some (.int (0 : Int32))]) dX8_crash_15 (ltQ rfl) rfl ?_
  exact k
theorem bX8_crash_16 {d : Nat} {h : HP} {Q : Out → HP → Prop} {v0 : Nat} {v1 : Int32} (k : (((4 : Int32) ≤ v1) → Q (.inl none) h) ∧ ((¬ ((4 : Int32) ≤ v1)) → (hK h v0 = 8) ∧ ((25 ≤ hK h (hR h 803 v0) ∧ hK h (hR h 803 v0) ≤ 29) ∧ ((inA h (hR h 803 v0) v1 = true) ∧ ((1 < (hAR h (hR h 803 v0) (v1).toNatClampNeg)) ∧ ((hK h (hAR h (hR h 803 v0) (v1).toNatClampNeg) = 2) ∧ (WP d mX2_dropProposal 0 [some (.ref (hAR h (hR h 803 v0) (v1).toNatClampNeg))] [] h (KK d mX8_crash mX2_dropProposal 27 [some (.ref v0), some (.int v1)] [] Q)))))))) : WP (d + 1) mX8_crash 16 [some (.ref v0), some (.int v1)] [] h Q := by
  refine w_iload_n dX8_crash_16 rfl ?_
  refine w_iconst dX8_crash_17 i1_4 ?_
  refine w_ic_ge (pc' := 36) dX8_crash_18 rfl rfl ⟨fun c => ?_, fun c => ?_⟩
  · replace k := k.1 c
    exact w_return dX8_crash_36 rfl k
  · replace k := k.2 c
    refine w_aload_n dX8_crash_21 rfl ?_
    obtain ⟨g1, k⟩ := k
    refine w_getR dX8_crash_22 f_8_27 t_8_3 g1 ?_
    refine w_iload_n dX8_crash_25 rfl ?_
    obtain ⟨g2, k⟩ := k
    obtain ⟨g3, k⟩ := k
    refine w_aaload dX8_crash_26 rfl g3 g2.1 g2.2 ?_
    obtain ⟨g4, k⟩ := k
    obtain ⟨g5, k⟩ := k
    exact w_virt (as1 := [.ref (hAR h (hR h 803 v0) (v1).toNatClampNeg)]) (as2 := [.ref (hAR h (hR h 803 v0) (v1).toNatClampNeg)]) (rest := []) (lo2 := [some (.ref (hAR h (hR h 803 v0) (v1).toNatClampNeg))]) dX8_crash_27 c_8_75 rfl rfl rfl (Nat.le_of_ble_eq_true rfl) (Nat.le_of_ble_eq_true rfl) rfl (Nat.le_of_ble_eq_true rfl) rfl rfl g4 g5 k
theorem bX8_crash_30 {d : Nat} {h : HP} {Q : Out → HP → Prop} {v0 : Nat} {v1 : Int32} (k : WP d mX8_crash 16 [some (.ref v0), some (.int (v1 + (1 : Int32)))] [] h Q) : WP d mX8_crash 30 [some (.ref v0), some (.int v1)] [] h Q := by
  refine w_iinc (lo' := [some (.ref v0), some (.int (v1 + (1 : Int32)))]) dX8_crash_30 rfl i1_1 rfl ?_
  refine w_goto (pc' := 16) dX8_crash_33 rfl rfl ?_
  exact k
theorem bX8_rise_0 {d : Nat} {h : HP} {Q : Out → HP → Prop} {v0 : Nat} {v1 : UInt32} (k : (hK h v0 = 8) ∧ ((1 < v0) ∧ (WP d mX8_promise 0 [some (.ref v0), some (.int (hI (sI h 804 v0 (1 : Int32)) 800 v0)), some (.float v1)] [] (sI h 804 v0 (1 : Int32)) (KK d mX8_rise mX8_promise 11 [some (.ref v0), some (.float v1)] [] Q)))) : WP (d + 1) mX8_rise 0 [some (.ref v0), some (.float v1)] [] h Q := by
  refine w_aload_n dX8_rise_0 rfl ?_
  refine w_iconst dX8_rise_1 i1_1 ?_
  obtain ⟨g1, k⟩ := k
  refine w_putZ dX8_rise_2 f_8_36 t_8_4 (pf_nf n_8_4) g1 rfl ?_
  refine w_aload_n dX8_rise_5 rfl ?_
  refine w_aload_n dX8_rise_6 rfl ?_
  refine w_getI dX8_rise_7 f_8_31 t_8_0 g1 ?_
  refine w_fload_n dX8_rise_10 rfl ?_
  obtain ⟨g2, k⟩ := k
  exact w_virt (as1 := [.float v1, .int (hI (sI h 804 v0 (1 : Int32)) 800 v0), .ref v0]) (as2 := [.ref v0, .int (hI (sI h 804 v0 (1 : Int32)) 800 v0), .float v1]) (rest := []) (lo2 := [some (.ref v0), some (.int (hI (sI h 804 v0 (1 : Int32)) 800 v0)), some (.float v1)]) dX8_rise_11 c_8_78 rfl rfl rfl (Nat.le_of_ble_eq_true rfl) (Nat.le_of_ble_eq_true rfl) rfl (Nat.le_of_ble_eq_true rfl) rfl rfl g2 g1 k
theorem bX8_rise_14 {d : Nat} {h : HP} {Q : Out → HP → Prop} {v0 : Nat} {v1 : UInt32} (k : Q (.inl none) h) : WP d mX8_rise 14 [some (.ref v0), some (.float v1)] [] h Q := by
  exact w_return dX8_rise_14 rfl k
theorem bX8_letPass_0 {d : Nat} {h : HP} {Q : Out → HP → Prop} {v0 : Nat} {v1 : UInt32} (k : (hK h v0 = 8) ∧ ((nn32 (FP.fmul v1 (hF h 806 v0)) = true) ∧ ((nn32 (FP.fadd (hF h 805 v0) (FP.fmul v1 (hF h 806 v0))) = true) ∧ (Q (.inl none) (sF h 805 v0 (FP.fadd (hF h 805 v0) (FP.fmul v1 (hF h 806 v0)))))))) : WP d mX8_letPass 0 [some (.ref v0), some (.float v1)] [] h Q := by
  refine w_aload_n dX8_letPass_0 rfl ?_
  refine w_aload_n dX8_letPass_1 rfl ?_
  obtain ⟨g1, k⟩ := k
  refine w_getF dX8_letPass_2 f_8_40 t_8_5 g1 ?_
  refine w_fload_n dX8_letPass_5 rfl ?_
  refine w_aload_n dX8_letPass_6 rfl ?_
  refine w_getF dX8_letPass_7 f_8_44 t_8_6 g1 ?_
  obtain ⟨g2, k⟩ := k
  refine w_fmul dX8_letPass_10 g2 ?_
  obtain ⟨g3, k⟩ := k
  refine w_fadd dX8_letPass_11 g3 ?_
  refine w_putF dX8_letPass_12 f_8_40 t_8_5 (pf_nf n_8_5) g1 ?_
  exact w_return dX8_letPass_15 rfl k
theorem bX8_follow_0 {d : Nat} {h : HP} {Q : Out → HP → Prop} {v0 : Nat} (k : (hK h v0 = 8) ∧ ((hK h (hR h 802 v0) = 5) ∧ (Q (.inl none) (sI (sI h 807 v0 (0 : Int32)) 504 (hR h 802 v0) (0 : Int32))))) : WP d mX8_follow 0 [some (.ref v0)] [] h Q := by
  refine w_aload_n dX8_follow_0 rfl ?_
  refine w_iconst dX8_follow_1 i1_0 ?_
  obtain ⟨g1, k⟩ := k
  refine w_putI dX8_follow_2 f_8_82 t_8_7 (pf_nf n_8_7) g1 ?_
  refine w_aload_n dX8_follow_5 rfl ?_
  refine w_getR dX8_follow_6 f_8_21 t_8_2 g1 ?_
  refine w_iconst dX8_follow_9 i1_0 ?_
  obtain ⟨g2, k⟩ := k
  refine w_putZ dX8_follow_10 f_8_85 t_5_4 (pf_nf n_5_4) g2 rfl ?_
  exact w_return dX8_follow_13 rfl k
theorem bX8_learnTerm_0 {d : Nat} {h : HP} {Q : Out → HP → Prop} {v0 : Nat} {v1 : Int32} (k : (hK h v0 = 8) ∧ (((v1 ≤ (hI h 808 v0)) → WP (d + 1) mX8_learnTerm 22 [some (.ref v0), some (.int v1)] [] h Q) ∧ ((¬ (v1 ≤ (hI h 808 v0))) → (1 < v0) ∧ (WP d mX8_follow 0 [some (.ref v0)] [] (sI (sI h 808 v0 v1) 809 v0 (-1 : Int32)) (KK d mX8_learnTerm mX8_follow 19 [some (.ref v0), some (.int v1)] [] Q))))) : WP (d + 1) mX8_learnTerm 0 [some (.ref v0), some (.int v1)] [] h Q := by
  refine w_iload_n dX8_learnTerm_0 rfl ?_
  refine w_aload_n dX8_learnTerm_1 rfl ?_
  obtain ⟨g1, k⟩ := k
  refine w_getI dX8_learnTerm_2 f_8_47 t_8_8 g1 ?_
  refine w_ic_le (pc' := 22) dX8_learnTerm_5 rfl rfl ⟨fun c => ?_, fun c => ?_⟩
  · replace k := k.1 c
    exact k
  · replace k := k.2 c
    refine w_aload_n dX8_learnTerm_8 rfl ?_
    refine w_iload_n dX8_learnTerm_9 rfl ?_
    refine w_putI dX8_learnTerm_10 f_8_47 t_8_8 (pf_nf n_8_8) g1 ?_
    refine w_aload_n dX8_learnTerm_13 rfl ?_
    refine w_iconst dX8_learnTerm_14 i1_m1 ?_
    refine w_putI dX8_learnTerm_15 f_8_50 t_8_9 (pf_nf n_8_9) g1 ?_
    refine w_aload_n dX8_learnTerm_18 rfl ?_
    obtain ⟨g2, k⟩ := k
    exact w_virt (as1 := [.ref v0]) (as2 := [.ref v0]) (rest := []) (lo2 := [some (.ref v0)]) dX8_learnTerm_19 c_8_69 rfl rfl rfl (Nat.le_of_ble_eq_true rfl) (Nat.le_of_ble_eq_true rfl) rfl (Nat.le_of_ble_eq_true rfl) rfl rfl g2 g1 k
theorem bX8_learnTerm_22 {d : Nat} {h : HP} {Q : Out → HP → Prop} {v0 : Nat} {v1 : Int32} (k : Q (.inl none) h) : WP d mX8_learnTerm 22 [some (.ref v0), some (.int v1)] [] h Q := by
  exact w_return dX8_learnTerm_22 rfl k
theorem bX8_promise_0 {d : Nat} {h : HP} {Q : Out → HP → Prop} {v0 : Nat} {v1 : Int32} {v2 : UInt32} (k : (hK h v0 = 8) ∧ ((nn32 (FP.fadd (hF h 805 v0) v2) = true) ∧ (Q (.inl none) (sF (sI h 812 v0 v1) 813 v0 (FP.fadd (hF h 805 v0) v2))))) : WP d mX8_promise 0 [some (.ref v0), some (.int v1), some (.float v2)] [] h Q := by
  refine w_aload_n dX8_promise_0 rfl ?_
  refine w_iload_n dX8_promise_1 rfl ?_
  obtain ⟨g1, k⟩ := k
  refine w_putI dX8_promise_2 f_8_59 t_8_12 (pf_nf n_8_12) g1 ?_
  refine w_aload_n dX8_promise_5 rfl ?_
  refine w_aload_n dX8_promise_6 rfl ?_
  refine w_getF dX8_promise_7 f_8_40 t_8_5 g1 ?_
  refine w_fload_n dX8_promise_10 rfl ?_
  obtain ⟨g2, k⟩ := k
  refine w_fadd dX8_promise_11 g2 ?_
  refine w_putF dX8_promise_12 f_8_62 t_8_13 (pf_nf n_8_13) g1 ?_
  exact w_return dX8_promise_15 rfl k
theorem bX8_hasPromised_0 {d : Nat} {h : HP} {Q : Out → HP → Prop} {v0 : Nat} (k : (hK h v0 = 8) ∧ ((((hI h 812 v0) = (-1 : Int32)) → Q (.inl (some (.int (0 : Int32)))) h) ∧ ((¬ ((hI h 812 v0) = (-1 : Int32))) → ((0 ≤ (Op.cmpValue (FP.fcmp (hF h 805 v0) (hF h 813 v0)) .g)) → Q (.inl (some (.int (0 : Int32)))) h) ∧ ((¬ (0 ≤ (Op.cmpValue (FP.fcmp (hF h 805 v0) (hF h 813 v0)) .g))) → Q (.inl (some (.int (1 : Int32)))) h)))) : WP d mX8_hasPromised 0 [some (.ref v0)] [] h Q := by
  refine w_aload_n dX8_hasPromised_0 rfl ?_
  obtain ⟨g1, k⟩ := k
  refine w_getI dX8_hasPromised_1 f_8_59 t_8_12 g1 ?_
  refine w_iconst dX8_hasPromised_4 i1_m1 ?_
  refine w_ic_eq (pc' := 24) dX8_hasPromised_5 rfl rfl ⟨fun c => ?_, fun c => ?_⟩
  · replace k := k.1 c
    refine w_iconst dX8_hasPromised_24 i1_0 ?_
    exact w_ireturn dX8_hasPromised_25 rfl k
  · replace k := k.2 c
    refine w_aload_n dX8_hasPromised_8 rfl ?_
    refine w_getF dX8_hasPromised_9 f_8_40 t_8_5 g1 ?_
    refine w_aload_n dX8_hasPromised_12 rfl ?_
    refine w_getF dX8_hasPromised_13 f_8_62 t_8_13 g1 ?_
    refine w_fcmp dX8_hasPromised_16 ?_
    refine w_if_ge (pc' := 24) dX8_hasPromised_17 rfl rfl ⟨fun c => ?_, fun c => ?_⟩
    · replace k := k.1 c
      refine w_iconst dX8_hasPromised_24 i1_0 ?_
      exact w_ireturn dX8_hasPromised_25 rfl k
    · replace k := k.2 c
      refine w_iconst dX8_hasPromised_20 i1_1 ?_
      refine w_goto (pc' := 25) dX8_hasPromised_21 rfl rfl ?_
      exact w_ireturn dX8_hasPromised_25 rfl k
theorem bX8_holdsLease_0 {d : Nat} {h : HP} {Q : Out → HP → Prop} {v0 : Nat} (k : (hK h v0 = 8) ∧ ((hK h (hR h 802 v0) = 5) ∧ ((((hI h 504 (hR h 802 v0)) = 0) → Q (.inl (some (.int (0 : Int32)))) h) ∧ ((¬ ((hI h 504 (hR h 802 v0)) = 0)) → ((0 ≤ (Op.cmpValue (FP.fcmp (hF h 805 v0) (hF h 505 (hR h 802 v0))) .g)) → Q (.inl (some (.int (0 : Int32)))) h) ∧ ((¬ (0 ≤ (Op.cmpValue (FP.fcmp (hF h 805 v0) (hF h 505 (hR h 802 v0))) .g))) → Q (.inl (some (.int (1 : Int32)))) h))))) : WP d mX8_holdsLease 0 [some (.ref v0)] [] h Q := by
  refine w_aload_n dX8_holdsLease_0 rfl ?_
  obtain ⟨g1, k⟩ := k
  refine w_getR dX8_holdsLease_1 f_8_21 t_8_2 g1 ?_
  obtain ⟨g2, k⟩ := k
  refine w_getZ dX8_holdsLease_4 f_8_85 t_5_4 g2 ?_
  refine w_if_eq (pc' := 29) dX8_holdsLease_7 rfl rfl ⟨fun c => ?_, fun c => ?_⟩
  · replace k := k.1 c
    refine w_iconst dX8_holdsLease_29 i1_0 ?_
    exact w_ireturn dX8_holdsLease_30 rfl k
  · replace k := k.2 c
    refine w_aload_n dX8_holdsLease_10 rfl ?_
    refine w_getF dX8_holdsLease_11 f_8_40 t_8_5 g1 ?_
    refine w_aload_n dX8_holdsLease_14 rfl ?_
    refine w_getR dX8_holdsLease_15 f_8_21 t_8_2 g1 ?_
    refine w_getF dX8_holdsLease_18 f_8_88 t_5_5 g2 ?_
    refine w_fcmp dX8_holdsLease_21 ?_
    refine w_if_ge (pc' := 29) dX8_holdsLease_22 rfl rfl ⟨fun c => ?_, fun c => ?_⟩
    · replace k := k.1 c
      refine w_iconst dX8_holdsLease_29 i1_0 ?_
      exact w_ireturn dX8_holdsLease_30 rfl k
    · replace k := k.2 c
      refine w_iconst dX8_holdsLease_25 i1_1 ?_
      refine w_goto (pc' := 30) dX8_holdsLease_26 rfl rfl ?_
      exact w_ireturn dX8_holdsLease_30 rfl k
theorem bX8_agreedInItsTerm_0 {d : Nat} {h : HP} {Q : Out → HP → Prop} {v0 : Nat} (k : (hK h v0 = 8) ∧ ((((hI h 810 v0) ≤ 0) → Q (.inl (some (.int (0 : Int32)))) h) ∧ ((¬ ((hI h 810 v0) ≤ 0)) → (1 < (hR h 801 v0)) ∧ ((hK h (hR h 801 v0) = 7) ∧ (WP d mX7_termAt 0 [some (.ref (hR h 801 v0)), some (.int (hI h 810 v0)), none] [] h (KK d mX8_agreedInItsTerm mX7_termAt 15 [some (.ref v0)] [] Q)))))) : WP (d + 1) mX8_agreedInItsTerm 0 [some (.ref v0)] [] h Q := by
  refine w_aload_n dX8_agreedInItsTerm_0 rfl ?_
  obtain ⟨g1, k⟩ := k
  refine w_getI dX8_agreedInItsTerm_1 f_8_53 t_8_10 g1 ?_
  refine w_if_le (pc' := 29) dX8_agreedInItsTerm_4 rfl rfl ⟨fun c => ?_, fun c => ?_⟩
  · replace k := k.1 c
    refine w_iconst dX8_agreedInItsTerm_29 i1_0 ?_
    exact w_ireturn dX8_agreedInItsTerm_30 rfl k
  · replace k := k.2 c
    refine w_aload_n dX8_agreedInItsTerm_7 rfl ?_
    refine w_getR dX8_agreedInItsTerm_8 f_8_12 t_8_1 g1 ?_
    refine w_aload_n dX8_agreedInItsTerm_11 rfl ?_
    refine w_getI dX8_agreedInItsTerm_12 f_8_53 t_8_10 g1 ?_
    obtain ⟨g2, k⟩ := k
    obtain ⟨g3, k⟩ := k
    exact w_virt (as1 := [.int (hI h 810 v0), .ref (hR h 801 v0)]) (as2 := [.ref (hR h 801 v0), .int (hI h 810 v0)]) (rest := []) (lo2 := [some (.ref (hR h 801 v0)), some (.int (hI h 810 v0)), none]) dX8_agreedInItsTerm_15 c_8_91 rfl rfl rfl (Nat.le_of_ble_eq_true rfl) (Nat.le_of_ble_eq_true rfl) rfl (Nat.le_of_ble_eq_true rfl) rfl rfl g2 g3 k
theorem bX8_agreedInItsTerm_18 {d : Nat} {h : HP} {Q : Out → HP → Prop} {v0 : Nat} {s0 : Int32} (k : (hK h v0 = 8) ∧ (((¬ s0 = (hI h 808 v0)) → Q (.inl (some (.int (0 : Int32)))) h) ∧ ((¬ (¬ s0 = (hI h 808 v0))) → Q (.inl (some (.int (1 : Int32)))) h))) : WP d mX8_agreedInItsTerm 18 [some (.ref v0)] [.int s0] h Q := by
  refine w_aload_n dX8_agreedInItsTerm_18 rfl ?_
  obtain ⟨g1, k⟩ := k
  refine w_getI dX8_agreedInItsTerm_19 f_8_47 t_8_8 g1 ?_
  refine w_ic_ne (pc' := 29) dX8_agreedInItsTerm_22 rfl rfl ⟨fun c => ?_, fun c => ?_⟩
  · replace k := k.1 c
    refine w_iconst dX8_agreedInItsTerm_29 i1_0 ?_
    exact w_ireturn dX8_agreedInItsTerm_30 rfl k
  · replace k := k.2 c
    refine w_iconst dX8_agreedInItsTerm_25 i1_1 ?_
    refine w_goto (pc' := 30) dX8_agreedInItsTerm_26 rfl rfl ?_
    exact w_ireturn dX8_agreedInItsTerm_30 rfl k
theorem bX8_canVoteFor_0 {d : Nat} {h : HP} {Q : Out → HP → Prop} {v0 : Nat} {v1 : Nat} {u2 : Option Value} (k : (hK h v0 = 8) ∧ ((((hI h 809 v0) = (-1 : Int32)) → (1 < v0) ∧ (WP d mX8_hasPromised 0 [some (.ref v0)] [] h (KK d mX8_canVoteFor mX8_hasPromised 22 [some (.ref v0), some (.ref v1), u2] [] Q))) ∧ ((¬ ((hI h 809 v0) = (-1 : Int32))) → (hK h v1 = 9) ∧ ((((hI h 809 v0) = (hI h 901 v1)) → (1 < v0) ∧ (WP d mX8_hasPromised 0 [some (.ref v0)] [] h (KK d mX8_canVoteFor mX8_hasPromised 22 [some (.ref v0), some (.ref v1), u2] [] Q))) ∧ ((¬ ((hI h 809 v0) = (hI h 901 v1))) → Q (.inl (some (.int (0 : Int32)))) h))))) : WP (d + 1) mX8_canVoteFor 0 [some (.ref v0), some (.ref v1), u2] [] h Q := by
  refine w_aload_n dX8_canVoteFor_0 rfl ?_
  obtain ⟨g1, k⟩ := k
  refine w_getI dX8_canVoteFor_1 f_8_50 t_8_9 g1 ?_
  refine w_iconst dX8_canVoteFor_4 i1_m1 ?_
  refine w_ic_eq (pc' := 21) dX8_canVoteFor_5 rfl rfl ⟨fun c => ?_, fun c => ?_⟩
  · replace k := k.1 c
    refine w_aload_n dX8_canVoteFor_21 rfl ?_
    obtain ⟨g2, k⟩ := k
    exact w_virt (as1 := [.ref v0]) (as2 := [.ref v0]) (rest := []) (lo2 := [some (.ref v0)]) dX8_canVoteFor_22 c_8_100 rfl rfl rfl (Nat.le_of_ble_eq_true rfl) (Nat.le_of_ble_eq_true rfl) rfl (Nat.le_of_ble_eq_true rfl) rfl rfl g2 g1 k
  · replace k := k.2 c
    refine w_aload_n dX8_canVoteFor_8 rfl ?_
    refine w_getI dX8_canVoteFor_9 f_8_50 t_8_9 g1 ?_
    refine w_aload_n dX8_canVoteFor_12 rfl ?_
    obtain ⟨g3, k⟩ := k
    refine w_getI dX8_canVoteFor_13 f_8_95 t_9_1 g3 ?_
    refine w_ic_eq (pc' := 21) dX8_canVoteFor_16 rfl rfl ⟨fun c => ?_, fun c => ?_⟩
    · replace k := k.1 c
      refine w_aload_n dX8_canVoteFor_21 rfl ?_
      obtain ⟨g4, k⟩ := k
      exact w_virt (as1 := [.ref v0]) (as2 := [.ref v0]) (rest := []) (lo2 := [some (.ref v0)]) dX8_canVoteFor_22 c_8_100 rfl rfl rfl (Nat.le_of_ble_eq_true rfl) (Nat.le_of_ble_eq_true rfl) rfl (Nat.le_of_ble_eq_true rfl) rfl rfl g4 g1 k
    · replace k := k.2 c
      refine w_iconst dX8_canVoteFor_19 i1_0 ?_
      exact w_ireturn dX8_canVoteFor_20 rfl k
theorem bX8_canVoteFor_25 {d : Nat} {h : HP} {Q : Out → HP → Prop} {v0 : Nat} {v1 : Nat} {u2 : Option Value} {s0 : Int32} (k : ((s0 = 0) → (hK h v0 = 8) ∧ ((hK h (hR h 801 v0) = 7) ∧ ((1 < (hR h 801 v0)) ∧ (WP d mX7_termAt 0 [some (.ref (hR h 801 v0)), some (.int (hI h 701 (hR h 801 v0))), none] [] h (KK d mX8_canVoteFor mX7_termAt 52 [some (.ref v0), some (.ref v1), u2] [] Q))))) ∧ ((¬ (s0 = 0)) → (hK h v0 = 8) ∧ ((hK h v1 = 9) ∧ ((((hI h 812 v0) = (hI h 901 v1)) → (hK h (hR h 801 v0) = 7) ∧ ((1 < (hR h 801 v0)) ∧ (WP d mX7_termAt 0 [some (.ref (hR h 801 v0)), some (.int (hI h 701 (hR h 801 v0))), none] [] h (KK d mX8_canVoteFor mX7_termAt 52 [some (.ref v0), some (.ref v1), u2] [] Q)))) ∧ ((¬ ((hI h 812 v0) = (hI h 901 v1))) → Q (.inl (some (.int (0 : Int32)))) h))))) : WP (d + 1) mX8_canVoteFor 25 [some (.ref v0), some (.ref v1), u2] [.int s0] h Q := by
  refine w_if_eq (pc' := 41) dX8_canVoteFor_25 rfl rfl ⟨fun c => ?_, fun c => ?_⟩
  · replace k := k.1 c
    refine w_aload_n dX8_canVoteFor_41 rfl ?_
    obtain ⟨g1, k⟩ := k
    refine w_getR dX8_canVoteFor_42 f_8_12 t_8_1 g1 ?_
    refine w_aload_n dX8_canVoteFor_45 rfl ?_
    refine w_getR dX8_canVoteFor_46 f_8_12 t_8_1 g1 ?_
    obtain ⟨g2, k⟩ := k
    refine w_getI dX8_canVoteFor_49 f_8_104 t_7_1 g2 ?_
    obtain ⟨g3, k⟩ := k
    exact w_virt (as1 := [.int (hI h 701 (hR h 801 v0)), .ref (hR h 801 v0)]) (as2 := [.ref (hR h 801 v0), .int (hI h 701 (hR h 801 v0))]) (rest := []) (lo2 := [some (.ref (hR h 801 v0)), some (.int (hI h 701 (hR h 801 v0))), none]) dX8_canVoteFor_52 c_8_91 rfl rfl rfl (Nat.le_of_ble_eq_true rfl) (Nat.le_of_ble_eq_true rfl) rfl (Nat.le_of_ble_eq_true rfl) rfl rfl g3 g2 k
  · replace k := k.2 c
    refine w_aload_n dX8_canVoteFor_28 rfl ?_
    obtain ⟨g4, k⟩ := k
    refine w_getI dX8_canVoteFor_29 f_8_59 t_8_12 g4 ?_
    refine w_aload_n dX8_canVoteFor_32 rfl ?_
    obtain ⟨g5, k⟩ := k
    refine w_getI dX8_canVoteFor_33 f_8_95 t_9_1 g5 ?_
    refine w_ic_eq (pc' := 41) dX8_canVoteFor_36 rfl rfl ⟨fun c => ?_, fun c => ?_⟩
    · replace k := k.1 c
      refine w_aload_n dX8_canVoteFor_41 rfl ?_
      refine w_getR dX8_canVoteFor_42 f_8_12 t_8_1 g4 ?_
      refine w_aload_n dX8_canVoteFor_45 rfl ?_
      refine w_getR dX8_canVoteFor_46 f_8_12 t_8_1 g4 ?_
      obtain ⟨g6, k⟩ := k
      refine w_getI dX8_canVoteFor_49 f_8_104 t_7_1 g6 ?_
      obtain ⟨g7, k⟩ := k
      exact w_virt (as1 := [.int (hI h 701 (hR h 801 v0)), .ref (hR h 801 v0)]) (as2 := [.ref (hR h 801 v0), .int (hI h 701 (hR h 801 v0))]) (rest := []) (lo2 := [some (.ref (hR h 801 v0)), some (.int (hI h 701 (hR h 801 v0))), none]) dX8_canVoteFor_52 c_8_91 rfl rfl rfl (Nat.le_of_ble_eq_true rfl) (Nat.le_of_ble_eq_true rfl) rfl (Nat.le_of_ble_eq_true rfl) rfl rfl g7 g6 k
    · replace k := k.2 c
      refine w_iconst dX8_canVoteFor_39 i1_0 ?_
      exact w_ireturn dX8_canVoteFor_40 rfl k
theorem bX8_canVoteFor_55 {d : Nat} {h : HP} {Q : Out → HP → Prop} {v0 : Nat} {v1 : Nat} {u2 : Option Value} {s0 : Int32} (k : (hK h v1 = 9) ∧ (((s0 < (hI h 905 v1)) → Q (.inl (some (.int (1 : Int32)))) h) ∧ ((¬ (s0 < (hI h 905 v1))) → ((¬ (hI h 905 v1) = s0) → Q (.inl (some (.int (0 : Int32)))) h) ∧ ((¬ (¬ (hI h 905 v1) = s0)) → (hK h v0 = 8) ∧ ((hK h (hR h 801 v0) = 7) ∧ ((((hI h 904 v1) < (hI h 701 (hR h 801 v0))) → Q (.inl (some (.int (0 : Int32)))) h) ∧ ((¬ ((hI h 904 v1) < (hI h 701 (hR h 801 v0)))) → Q (.inl (some (.int (1 : Int32)))) h))))))) : WP d mX8_canVoteFor 55 [some (.ref v0), some (.ref v1), u2] [.int s0] h Q := by
  refine w_istore_n (lo' := [some (.ref v0), some (.ref v1), some (.int s0)]) dX8_canVoteFor_55 (ltQ rfl) rfl ?_
  refine w_aload_n dX8_canVoteFor_56 rfl ?_
  obtain ⟨g1, k⟩ := k
  refine w_getI dX8_canVoteFor_57 f_8_107 t_9_5 g1 ?_
  refine w_iload_n dX8_canVoteFor_60 rfl ?_
  refine w_ic_gt (pc' := 86) dX8_canVoteFor_61 rfl rfl ⟨fun c => ?_, fun c => ?_⟩
  · replace k := k.1 c
    refine w_iconst dX8_canVoteFor_86 i1_1 ?_
    refine w_goto (pc' := 91) dX8_canVoteFor_87 rfl rfl ?_
    exact w_ireturn dX8_canVoteFor_91 rfl k
  · replace k := k.2 c
    refine w_aload_n dX8_canVoteFor_64 rfl ?_
    refine w_getI dX8_canVoteFor_65 f_8_107 t_9_5 g1 ?_
    refine w_iload_n dX8_canVoteFor_68 rfl ?_
    refine w_ic_ne (pc' := 90) dX8_canVoteFor_69 rfl rfl ⟨fun c => ?_, fun c => ?_⟩
    · replace k := k.1 c
      refine w_iconst dX8_canVoteFor_90 i1_0 ?_
      exact w_ireturn dX8_canVoteFor_91 rfl k
    · replace k := k.2 c
      refine w_aload_n dX8_canVoteFor_72 rfl ?_
      refine w_getI dX8_canVoteFor_73 f_8_110 t_9_4 g1 ?_
      refine w_aload_n dX8_canVoteFor_76 rfl ?_
      obtain ⟨g2, k⟩ := k
      refine w_getR dX8_canVoteFor_77 f_8_12 t_8_1 g2 ?_
      obtain ⟨g3, k⟩ := k
      refine w_getI dX8_canVoteFor_80 f_8_104 t_7_1 g3 ?_
      refine w_ic_lt (pc' := 90) dX8_canVoteFor_83 rfl rfl ⟨fun c => ?_, fun c => ?_⟩
      · replace k := k.1 c
        refine w_iconst dX8_canVoteFor_90 i1_0 ?_
        exact w_ireturn dX8_canVoteFor_91 rfl k
      · replace k := k.2 c
        refine w_iconst dX8_canVoteFor_86 i1_1 ?_
        refine w_goto (pc' := 91) dX8_canVoteFor_87 rfl rfl ?_
        exact w_ireturn dX8_canVoteFor_91 rfl k
theorem bX8_agreesWith_0 {d : Nat} {h : HP} {Q : Out → HP → Prop} {v0 : Nat} {v1 : Nat} {u2 : Option Value} {u3 : Option Value} {u4 : Option Value} (k : WP d mX8_agreesWith 2 [some (.ref v0), some (.ref v1), some (.int (0 : Int32)), u3, u4] [] h Q) : WP d mX8_agreesWith 0 [some (.ref v0), some (.ref v1), u2, u3, u4] [] h Q := by
  refine w_iconst dX8_agreesWith_0 i1_0 ?_
  refine w_istore_n (lo' := [some (.ref v0), some (.ref v1), some (.int (0 : Int32)), u3, u4]) dX8_agreesWith_1 (ltQ rfl) rfl ?_
  exact k
theorem bX8_agreesWith_2 {d : Nat} {h : HP} {Q : Out → HP → Prop} {v0 : Nat} {v1 : Nat} {v2 : Int32} {u3 : Option Value} {u4 : Option Value} (k : (((4 : Int32) ≤ v2) → (hK h v0 = 8) ∧ ((hK h v1 = 8) ∧ ((1 < (hR h 801 v0)) ∧ ((hK h (hR h 801 v0) = 7) ∧ (WP d mX7_isLikeUpTo 0 [some (.ref (hR h 801 v0)), some (.ref (hR h 801 v1)), some (.int (if (hI h 810 v1) < (hI h 810 v0) then (hI h 810 v1) else (hI h 810 v0))), none, none] [] h (KK d mX8_agreesWith mX7_isLikeUpTo 72 [some (.ref v0), some (.ref v1), some (.int v2), u3, u4] [] Q)))))) ∧ ((¬ ((4 : Int32) ≤ v2)) → (hK h v0 = 8) ∧ ((25 ≤ hK h (hR h 803 v0) ∧ hK h (hR h 803 v0) ≤ 29) ∧ ((inA h (hR h 803 v0) v2 = true) ∧ ((hK h (hAR h (hR h 803 v0) (v2).toNatClampNeg) = 2) ∧ ((hK h v1 = 8) ∧ ((25 ≤ hK h (hR h 803 v1) ∧ hK h (hR h 803 v1) ≤ 29) ∧ ((inA h (hR h 803 v1) v2 = true) ∧ ((hK h (hAR h (hR h 803 v1) (v2).toNatClampNeg) = 2) ∧ ((((hI h 203 (hAR h (hR h 803 v0) (v2).toNatClampNeg)) = (-1 : Int32)) → WP (d + 1) mX8_agreesWith 2 [some (.ref v0), some (.ref v1), some (.int (v2 + (1 : Int32))), some (.int (hI h 203 (hAR h (hR h 803 v0) (v2).toNatClampNeg))), some (.int (hI h 203 (hAR h (hR h 803 v1) (v2).toNatClampNeg)))] [] h Q) ∧ ((¬ ((hI h 203 (hAR h (hR h 803 v0) (v2).toNatClampNeg)) = (-1 : Int32))) → (((hI h 203 (hAR h (hR h 803 v1) (v2).toNatClampNeg)) = (-1 : Int32)) → WP (d + 1) mX8_agreesWith 2 [some (.ref v0), some (.ref v1), some (.int (v2 + (1 : Int32))), some (.int (hI h 203 (hAR h (hR h 803 v0) (v2).toNatClampNeg))), some (.int (hI h 203 (hAR h (hR h 803 v1) (v2).toNatClampNeg)))] [] h Q) ∧ ((¬ ((hI h 203 (hAR h (hR h 803 v1) (v2).toNatClampNeg)) = (-1 : Int32))) → (((hI h 203 (hAR h (hR h 803 v0) (v2).toNatClampNeg)) = (hI h 203 (hAR h (hR h 803 v1) (v2).toNatClampNeg))) → WP (d + 1) mX8_agreesWith 2 [some (.ref v0), some (.ref v1), some (.int (v2 + (1 : Int32))), some (.int (hI h 203 (hAR h (hR h 803 v0) (v2).toNatClampNeg))), some (.int (hI h 203 (hAR h (hR h 803 v1) (v2).toNatClampNeg)))] [] h Q) ∧ ((¬ ((hI h 203 (hAR h (hR h 803 v0) (v2).toNatClampNeg)) = (hI h 203 (hAR h (hR h 803 v1) (v2).toNatClampNeg)))) → Q (.inl (some (.int (0 : Int32)))) h))))))))))))) : WP (d + 1) mX8_agreesWith 2 [some (.ref v0), some (.ref v1), some (.int v2), u3, u4] [] h Q := by
  refine w_iload_n dX8_agreesWith_2 rfl ?_
  refine w_iconst dX8_agreesWith_3 i1_4 ?_
  refine w_ic_ge (pc' := 53) dX8_agreesWith_4 rfl rfl ⟨fun c => ?_, fun c => ?_⟩
  · replace k := k.1 c
    refine w_aload_n dX8_agreesWith_53 rfl ?_
    obtain ⟨g1, k⟩ := k
    refine w_getR dX8_agreesWith_54 f_8_12 t_8_1 g1 ?_
    refine w_aload_n dX8_agreesWith_57 rfl ?_
    obtain ⟨g2, k⟩ := k
    refine w_getR dX8_agreesWith_58 f_8_12 t_8_1 g2 ?_
    refine w_aload_n dX8_agreesWith_61 rfl ?_
    refine w_getI dX8_agreesWith_62 f_8_53 t_8_10 g1 ?_
    refine w_aload_n dX8_agreesWith_65 rfl ?_
    refine w_getI dX8_agreesWith_66 f_8_53 t_8_10 g2 ?_
    refine w_min dX8_agreesWith_69 c_8_114 (Nat.le_of_ble_eq_true rfl) rfl ?_
    obtain ⟨g3, k⟩ := k
    obtain ⟨g4, k⟩ := k
    exact w_virt (as1 := [.int (if (hI h 810 v1) < (hI h 810 v0) then (hI h 810 v1) else (hI h 810 v0)), .ref (hR h 801 v1), .ref (hR h 801 v0)]) (as2 := [.ref (hR h 801 v0), .ref (hR h 801 v1), .int (if (hI h 810 v1) < (hI h 810 v0) then (hI h 810 v1) else (hI h 810 v0))]) (rest := []) (lo2 := [some (.ref (hR h 801 v0)), some (.ref (hR h 801 v1)), some (.int (if (hI h 810 v1) < (hI h 810 v0) then (hI h 810 v1) else (hI h 810 v0))), none, none]) dX8_agreesWith_72 c_8_120 rfl rfl rfl (Nat.le_of_ble_eq_true rfl) (Nat.le_of_ble_eq_true rfl) rfl (Nat.le_of_ble_eq_true rfl) rfl rfl g3 g4 k
  · replace k := k.2 c
    refine w_aload_n dX8_agreesWith_7 rfl ?_
    obtain ⟨g5, k⟩ := k
    refine w_getR dX8_agreesWith_8 f_8_27 t_8_3 g5 ?_
    refine w_iload_n dX8_agreesWith_11 rfl ?_
    obtain ⟨g6, k⟩ := k
    obtain ⟨g7, k⟩ := k
    refine w_aaload dX8_agreesWith_12 rfl g7 g6.1 g6.2 ?_
    obtain ⟨g8, k⟩ := k
    refine w_getI dX8_agreesWith_13 f_8_111 t_2_3 g8 ?_
    refine w_istore_n (lo' := [some (.ref v0), some (.ref v1), some (.int v2), some (.int (hI h 203 (hAR h (hR h 803 v0) (v2).toNatClampNeg))), u4]) dX8_agreesWith_16 (ltQ rfl) rfl ?_
    refine w_aload_n dX8_agreesWith_17 rfl ?_
    obtain ⟨g9, k⟩ := k
    refine w_getR dX8_agreesWith_18 f_8_27 t_8_3 g9 ?_
    refine w_iload_n dX8_agreesWith_21 rfl ?_
    obtain ⟨g10, k⟩ := k
    obtain ⟨g11, k⟩ := k
    refine w_aaload dX8_agreesWith_22 rfl g11 g10.1 g10.2 ?_
    obtain ⟨g12, k⟩ := k
    refine w_getI dX8_agreesWith_23 f_8_111 t_2_3 g12 ?_
    refine w_istore (lo' := [some (.ref v0), some (.ref v1), some (.int v2), some (.int (hI h 203 (hAR h (hR h 803 v0) (v2).toNatClampNeg))), some (.int (hI h 203 (hAR h (hR h 803 v1) (v2).toNatClampNeg)))]) dX8_agreesWith_26 (ltQ rfl) rfl ?_
    refine w_iload_n dX8_agreesWith_28 rfl ?_
    refine w_iconst dX8_agreesWith_29 i1_m1 ?_
    refine w_ic_eq (pc' := 47) dX8_agreesWith_30 rfl rfl ⟨fun c => ?_, fun c => ?_⟩
    · replace k := k.1 c
      refine w_iinc (lo' := [some (.ref v0), some (.ref v1), some (.int (v2 + (1 : Int32))), some (.int (hI h 203 (hAR h (hR h 803 v0) (v2).toNatClampNeg))), some (.int (hI h 203 (hAR h (hR h 803 v1) (v2).toNatClampNeg)))]) dX8_agreesWith_47 rfl i1_1 rfl ?_
      refine w_goto (pc' := 2) dX8_agreesWith_50 rfl rfl ?_
      exact k
    · replace k := k.2 c
      refine w_iload dX8_agreesWith_33 rfl ?_
      refine w_iconst dX8_agreesWith_35 i1_m1 ?_
      refine w_ic_eq (pc' := 47) dX8_agreesWith_36 rfl rfl ⟨fun c => ?_, fun c => ?_⟩
      · replace k := k.1 c
        refine w_iinc (lo' := [some (.ref v0), some (.ref v1), some (.int (v2 + (1 : Int32))), some (.int (hI h 203 (hAR h (hR h 803 v0) (v2).toNatClampNeg))), some (.int (hI h 203 (hAR h (hR h 803 v1) (v2).toNatClampNeg)))]) dX8_agreesWith_47 rfl i1_1 rfl ?_
        refine w_goto (pc' := 2) dX8_agreesWith_50 rfl rfl ?_
        exact k
      · replace k := k.2 c
        refine w_iload_n dX8_agreesWith_39 rfl ?_
        refine w_iload dX8_agreesWith_40 rfl ?_
        refine w_ic_eq (pc' := 47) dX8_agreesWith_42 rfl rfl ⟨fun c => ?_, fun c => ?_⟩
        · replace k := k.1 c
          refine w_iinc (lo' := [some (.ref v0), some (.ref v1), some (.int (v2 + (1 : Int32))), some (.int (hI h 203 (hAR h (hR h 803 v0) (v2).toNatClampNeg))), some (.int (hI h 203 (hAR h (hR h 803 v1) (v2).toNatClampNeg)))]) dX8_agreesWith_47 rfl i1_1 rfl ?_
          refine w_goto (pc' := 2) dX8_agreesWith_50 rfl rfl ?_
          exact k
        · replace k := k.2 c
          refine w_iconst dX8_agreesWith_45 i1_0 ?_
          exact w_ireturn dX8_agreesWith_46 rfl k
theorem bX8_agreesWith_75 {d : Nat} {h : HP} {Q : Out → HP → Prop} {v0 : Nat} {v1 : Nat} {v2 : Int32} {u3 : Option Value} {u4 : Option Value} {s0 : Int32} (k : (isZ s0 = true) ∧ (Q (.inl (some (.int s0))) h)) : WP d mX8_agreesWith 75 [some (.ref v0), some (.ref v1), some (.int v2), u3, u4] [.int s0] h Q := by
  obtain ⟨g1, k⟩ := k
  exact w_ireturn dX8_agreesWith_75 g1 k
theorem bX9_init_0 {d : Nat} {h : HP} {Q : Out → HP → Prop} {v0 : Nat} (k : (1 < v0) ∧ ((hK (nw h 27 3 3) v0 = 9) ∧ (Q (.inl none) (sR (nw h 27 3 3) 909 v0 (hN h))))) : WP d mX9_init 0 [some (.ref v0)] [] h Q := by
  refine w_aload_n dX9_init_0 rfl ?_
  obtain ⟨g1, k⟩ := k
  refine w_obj dX9_init_1 c_9_3 (Nat.le_of_ble_eq_true rfl) rfl g1 ?_
  refine w_aload_n dX9_init_4 rfl ?_
  refine w_iconst dX9_init_5 i1_3 ?_
  refine w_anew (m := 3) dX9_init_6 (by decide) (by decide) (by decide) ar_9_9 ?_
  obtain ⟨g2, k⟩ := k
  refine w_putR dX9_init_9 f_9_11 t_9_9 (pf_in rfl rfl) g2 ?_
  exact w_return dX9_init_12 rfl k
theorem bX9_start_0 {d : Nat} {h : HP} {Q : Out → HP → Prop} {v0 : Nat} {v1 : Int32} {v2 : Int32} {v3 : Int32} {v4 : Int32} (k : (hK h v0 = 9) ∧ (Q (.inl none) (sI (sI (sI (sI (sI (sF (sI (sI (sI (sI (sI (sI (sI h 900 v0 v1) 901 v0 v2) 902 v0 v3) 903 v0 v4) 904 v0 (0 : Int32)) 905 v0 (0 : Int32)) 906 v0 (0 : Int32)) 907 v0 FP.fconst0) 908 v0 (0 : Int32)) 910 v0 (0 : Int32)) 911 v0 (0 : Int32)) 912 v0 (-1 : Int32)) 913 v0 (-1 : Int32)))) : WP d mX9_start 0 [some (.ref v0), some (.int v1), some (.int v2), some (.int v3), some (.int v4)] [] h Q := by
  refine w_aload_n dX9_start_0 rfl ?_
  refine w_iload_n dX9_start_1 rfl ?_
  obtain ⟨g1, k⟩ := k
  refine w_putI dX9_start_2 f_9_17 t_9_0 (pf_nf n_9_0) g1 ?_
  refine w_aload_n dX9_start_5 rfl ?_
  refine w_iload_n dX9_start_6 rfl ?_
  refine w_putI dX9_start_7 f_9_21 t_9_1 (pf_nf n_9_1) g1 ?_
  refine w_aload_n dX9_start_10 rfl ?_
  refine w_iload_n dX9_start_11 rfl ?_
  refine w_putI dX9_start_12 f_9_24 t_9_2 (pf_nf n_9_2) g1 ?_
  refine w_aload_n dX9_start_15 rfl ?_
  refine w_iload dX9_start_16 rfl ?_
  refine w_putI dX9_start_18 f_9_27 t_9_3 (pf_nf n_9_3) g1 ?_
  refine w_aload_n dX9_start_21 rfl ?_
  refine w_iconst dX9_start_22 i1_0 ?_
  refine w_putI dX9_start_23 f_9_30 t_9_4 (pf_nf n_9_4) g1 ?_
  refine w_aload_n dX9_start_26 rfl ?_
  refine w_iconst dX9_start_27 i1_0 ?_
  refine w_putI dX9_start_28 f_9_33 t_9_5 (pf_nf n_9_5) g1 ?_
  refine w_aload_n dX9_start_31 rfl ?_
  refine w_iconst dX9_start_32 i1_0 ?_
  refine w_putI dX9_start_33 f_9_36 t_9_6 (pf_nf n_9_6) g1 ?_
  refine w_aload_n dX9_start_36 rfl ?_
  refine w_fconst0 dX9_start_37 ?_
  refine w_putF dX9_start_38 f_9_39 t_9_7 (pf_nf n_9_7) g1 ?_
  refine w_aload_n dX9_start_41 rfl ?_
  refine w_iconst dX9_start_42 i1_0 ?_
  refine w_putZ dX9_start_43 f_9_43 t_9_8 (pf_nf n_9_8) g1 rfl ?_
  refine w_aload_n dX9_start_46 rfl ?_
  refine w_iconst dX9_start_47 i1_0 ?_
  refine w_putI dX9_start_48 f_9_47 t_9_10 (pf_nf n_9_10) g1 ?_
  refine w_aload_n dX9_start_51 rfl ?_
  refine w_iconst dX9_start_52 i1_0 ?_
  refine w_putI dX9_start_53 f_9_50 t_9_11 (pf_nf n_9_11) g1 ?_
  refine w_aload_n dX9_start_56 rfl ?_
  refine w_iconst dX9_start_57 i1_m1 ?_
  refine w_putI dX9_start_58 f_9_53 t_9_12 (pf_nf n_9_12) g1 ?_
  refine w_aload_n dX9_start_61 rfl ?_
  refine w_iconst dX9_start_62 i1_m1 ?_
  refine w_putI dX9_start_63 f_9_56 t_9_13 (pf_nf n_9_13) g1 ?_
  exact w_return dX9_start_66 rfl k
theorem bX9_copyRest_0 {d : Nat} {h : HP} {Q : Out → HP → Prop} {v0 : Nat} {v1 : Nat} {u2 : Option Value} (k : (hK h v1 = 9) ∧ ((hK h v0 = 9) ∧ ((isZ (hI (sI (sI (sI h 904 v0 (hI h 904 v1)) 905 v0 (hI (sI h 904 v0 (hI h 904 v1)) 905 v1)) 906 v0 (hI (sI (sI h 904 v0 (hI h 904 v1)) 905 v0 (hI (sI h 904 v0 (hI h 904 v1)) 905 v1)) 906 v1)) 908 v1) = true) ∧ (WP d mX9_copyRest 45 [some (.ref v0), some (.ref v1), u2] [.int (hI (sI (sF (sI (sI (sI h 904 v0 (hI h 904 v1)) 905 v0 (hI (sI h 904 v0 (hI h 904 v1)) 905 v1)) 906 v0 (hI (sI (sI h 904 v0 (hI h 904 v1)) 905 v0 (hI (sI h 904 v0 (hI h 904 v1)) 905 v1)) 906 v1)) 907 v0 (hF h 907 v1)) 908 v0 (hI (sI (sI (sI h 904 v0 (hI h 904 v1)) 905 v0 (hI (sI h 904 v0 (hI h 904 v1)) 905 v1)) 906 v0 (hI (sI (sI h 904 v0 (hI h 904 v1)) 905 v0 (hI (sI h 904 v0 (hI h 904 v1)) 905 v1)) 906 v1)) 908 v1)) 910 v1), .ref v0] (sI (sF (sI (sI (sI h 904 v0 (hI h 904 v1)) 905 v0 (hI (sI h 904 v0 (hI h 904 v1)) 905 v1)) 906 v0 (hI (sI (sI h 904 v0 (hI h 904 v1)) 905 v0 (hI (sI h 904 v0 (hI h 904 v1)) 905 v1)) 906 v1)) 907 v0 (hF h 907 v1)) 908 v0 (hI (sI (sI (sI h 904 v0 (hI h 904 v1)) 905 v0 (hI (sI h 904 v0 (hI h 904 v1)) 905 v1)) 906 v0 (hI (sI (sI h 904 v0 (hI h 904 v1)) 905 v0 (hI (sI h 904 v0 (hI h 904 v1)) 905 v1)) 906 v1)) 908 v1)) Q)))) : WP d mX9_copyRest 0 [some (.ref v0), some (.ref v1), u2] [] h Q := by
  refine w_aload_n dX9_copyRest_0 rfl ?_
  refine w_aload_n dX9_copyRest_1 rfl ?_
  obtain ⟨g1, k⟩ := k
  refine w_getI dX9_copyRest_2 f_9_30 t_9_4 g1 ?_
  obtain ⟨g2, k⟩ := k
  refine w_putI dX9_copyRest_5 f_9_30 t_9_4 (pf_nf n_9_4) g2 ?_
  refine w_aload_n dX9_copyRest_8 rfl ?_
  refine w_aload_n dX9_copyRest_9 rfl ?_
  refine w_getI dX9_copyRest_10 f_9_33 t_9_5 g1 ?_
  refine w_putI dX9_copyRest_13 f_9_33 t_9_5 (pf_nf n_9_5) g2 ?_
  refine w_aload_n dX9_copyRest_16 rfl ?_
  refine w_aload_n dX9_copyRest_17 rfl ?_
  refine w_getI dX9_copyRest_18 f_9_36 t_9_6 g1 ?_
  refine w_putI dX9_copyRest_21 f_9_36 t_9_6 (pf_nf n_9_6) g2 ?_
  refine w_aload_n dX9_copyRest_24 rfl ?_
  refine w_aload_n dX9_copyRest_25 rfl ?_
  refine w_getF dX9_copyRest_26 f_9_39 t_9_7 g1 ?_
  refine w_putF dX9_copyRest_29 f_9_39 t_9_7 (pf_nf n_9_7) g2 ?_
  refine w_aload_n dX9_copyRest_32 rfl ?_
  refine w_aload_n dX9_copyRest_33 rfl ?_
  refine w_getZ dX9_copyRest_34 f_9_43 t_9_8 g1 ?_
  obtain ⟨g3, k⟩ := k
  refine w_putZ dX9_copyRest_37 f_9_43 t_9_8 (pf_nf n_9_8) g2 g3 ?_
  refine w_aload_n dX9_copyRest_40 rfl ?_
  refine w_aload_n dX9_copyRest_41 rfl ?_
  refine w_getI dX9_copyRest_42 f_9_47 t_9_10 g1 ?_
  exact k
theorem bX9_copyRest_45 {d : Nat} {h : HP} {Q : Out → HP → Prop} {v0 : Nat} {v1 : Nat} {u2 : Option Value} {s0 : Int32} {s1 : Nat} (k : (hK h s1 = 9) ∧ (WP d mX9_copyRest 50 [some (.ref v0), some (.ref v1), some (.int (0 : Int32))] [] (sI h 910 s1 s0) Q)) : WP d mX9_copyRest 45 [some (.ref v0), some (.ref v1), u2] [.int s0, .ref s1] h Q := by
  obtain ⟨g1, k⟩ := k
  refine w_putI dX9_copyRest_45 f_9_47 t_9_10 (pf_nf n_9_10) g1 ?_
  refine w_iconst dX9_copyRest_48 i1_0 ?_
  refine w_istore_n (lo' := [some (.ref v0), some (.ref v1), some (.int (0 : Int32))]) dX9_copyRest_49 (ltQ rfl) rfl ?_
  exact k
theorem bX9_copyRest_50 {d : Nat} {h : HP} {Q : Out → HP → Prop} {v0 : Nat} {v1 : Nat} {v2 : Int32} (k : (((3 : Int32) ≤ v2) → (hK h v1 = 9) ∧ ((hK h v0 = 9) ∧ (Q (.inl none) (sI (sI (sI h 911 v0 (hI h 911 v1)) 912 v0 (hI (sI h 911 v0 (hI h 911 v1)) 912 v1)) 913 v0 (hI (sI (sI h 911 v0 (hI h 911 v1)) 912 v0 (hI (sI h 911 v0 (hI h 911 v1)) 912 v1)) 913 v1))))) ∧ ((¬ ((3 : Int32) ≤ v2)) → (hK h v0 = 9) ∧ ((hK h v1 = 9) ∧ ((25 ≤ hK h (hR h 909 v1) ∧ hK h (hR h 909 v1) ≤ 29) ∧ ((inA h (hR h 909 v1) v2 = true) ∧ ((25 ≤ hK h (hR h 909 v0) ∧ hK h (hR h 909 v0) ≤ 29) ∧ ((inA h (hR h 909 v0) v2 = true) ∧ (((hAR h (hR h 909 v1) (v2).toNatClampNeg) = 0 ∨ (1 < (hAR h (hR h 909 v1) (v2).toNatClampNeg) ∧ hK h (hAR h (hR h 909 v1) (v2).toNatClampNeg) = acl (hK h (hR h 909 v0) - 25))) ∧ (WP d mX9_copyRest 50 [some (.ref v0), some (.ref v1), some (.int (v2 + (1 : Int32)))] [] (sAR h (hR h 909 v0) (v2).toNatClampNeg (hAR h (hR h 909 v1) (v2).toNatClampNeg)) Q))))))))) : WP d mX9_copyRest 50 [some (.ref v0), some (.ref v1), some (.int v2)] [] h Q := by
  refine w_iload_n dX9_copyRest_50 rfl ?_
  refine w_iconst dX9_copyRest_51 i1_3 ?_
  refine w_ic_ge (pc' := 73) dX9_copyRest_52 rfl rfl ⟨fun c => ?_, fun c => ?_⟩
  · replace k := k.1 c
    refine w_aload_n dX9_copyRest_73 rfl ?_
    refine w_aload_n dX9_copyRest_74 rfl ?_
    obtain ⟨g1, k⟩ := k
    refine w_getI dX9_copyRest_75 f_9_50 t_9_11 g1 ?_
    obtain ⟨g2, k⟩ := k
    refine w_putI dX9_copyRest_78 f_9_50 t_9_11 (pf_nf n_9_11) g2 ?_
    refine w_aload_n dX9_copyRest_81 rfl ?_
    refine w_aload_n dX9_copyRest_82 rfl ?_
    refine w_getI dX9_copyRest_83 f_9_53 t_9_12 g1 ?_
    refine w_putI dX9_copyRest_86 f_9_53 t_9_12 (pf_nf n_9_12) g2 ?_
    refine w_aload_n dX9_copyRest_89 rfl ?_
    refine w_aload_n dX9_copyRest_90 rfl ?_
    refine w_getI dX9_copyRest_91 f_9_56 t_9_13 g1 ?_
    refine w_putI dX9_copyRest_94 f_9_56 t_9_13 (pf_nf n_9_13) g2 ?_
    exact w_return dX9_copyRest_97 rfl k
  · replace k := k.2 c
    refine w_aload_n dX9_copyRest_55 rfl ?_
    obtain ⟨g3, k⟩ := k
    refine w_getR dX9_copyRest_56 f_9_11 t_9_9 g3 ?_
    refine w_iload_n dX9_copyRest_59 rfl ?_
    refine w_aload_n dX9_copyRest_60 rfl ?_
    obtain ⟨g4, k⟩ := k
    refine w_getR dX9_copyRest_61 f_9_11 t_9_9 g4 ?_
    refine w_iload_n dX9_copyRest_64 rfl ?_
    obtain ⟨g5, k⟩ := k
    obtain ⟨g6, k⟩ := k
    refine w_aaload dX9_copyRest_65 rfl g6 g5.1 g5.2 ?_
    obtain ⟨g7, k⟩ := k
    obtain ⟨g8, k⟩ := k
    obtain ⟨g9, k⟩ := k
    refine w_aastore0 dX9_copyRest_66 rfl g8 g7.1 g7.2 g9 ?_
    refine w_iinc (lo' := [some (.ref v0), some (.ref v1), some (.int (v2 + (1 : Int32)))]) dX9_copyRest_67 rfl i1_1 rfl ?_
    refine w_goto (pc' := 50) dX9_copyRest_70 rfl rfl ?_
    exact k
theorem bX9_addEntriesBehind_0 {d : Nat} {h : HP} {Q : Out → HP → Prop} {v0 : Nat} {v1 : Nat} {v2 : Int32} {u3 : Option Value} {u4 : Option Value} (k : WP d mX9_addEntriesBehind 2 [some (.ref v0), some (.ref v1), some (.int v2), some (.int (0 : Int32)), u4] [] h Q) : WP d mX9_addEntriesBehind 0 [some (.ref v0), some (.ref v1), some (.int v2), u3, u4] [] h Q := by
  refine w_iconst dX9_addEntriesBehind_0 i1_0 ?_
  refine w_istore_n (lo' := [some (.ref v0), some (.ref v1), some (.int v2), some (.int (0 : Int32)), u4]) dX9_addEntriesBehind_1 (ltQ rfl) rfl ?_
  exact k
theorem bX9_addEntriesBehind_2 {d : Nat} {h : HP} {Q : Out → HP → Prop} {v0 : Nat} {v1 : Nat} {v2 : Int32} {v3 : Int32} {u4 : Option Value} (k : (((3 : Int32) ≤ v3) → Q (.inl none) h) ∧ ((¬ ((3 : Int32) ≤ v3)) → (1 < v1) ∧ ((hK h v1 = 7) ∧ (WP d mX7_at 0 [some (.ref v1), some (.int ((v2 + (1 : Int32)) + v3))] [] h (KK d mX9_addEntriesBehind mX7_at 13 [some (.ref v0), some (.ref v1), some (.int v2), some (.int v3), u4] [] Q))))) : WP (d + 1) mX9_addEntriesBehind 2 [some (.ref v0), some (.ref v1), some (.int v2), some (.int v3), u4] [] h Q := by
  refine w_iload_n dX9_addEntriesBehind_2 rfl ?_
  refine w_iconst dX9_addEntriesBehind_3 i1_3 ?_
  refine w_ic_ge (pc' := 50) dX9_addEntriesBehind_4 rfl rfl ⟨fun c => ?_, fun c => ?_⟩
  · replace k := k.1 c
    exact w_return dX9_addEntriesBehind_50 rfl k
  · replace k := k.2 c
    refine w_aload_n dX9_addEntriesBehind_7 rfl ?_
    refine w_iload_n dX9_addEntriesBehind_8 rfl ?_
    refine w_iconst dX9_addEntriesBehind_9 i1_1 ?_
    refine w_iadd dX9_addEntriesBehind_10 ?_
    refine w_iload_n dX9_addEntriesBehind_11 rfl ?_
    refine w_iadd dX9_addEntriesBehind_12 ?_
    obtain ⟨g1, k⟩ := k
    obtain ⟨g2, k⟩ := k
    exact w_virt (as1 := [.int ((v2 + (1 : Int32)) + v3), .ref v1]) (as2 := [.ref v1, .int ((v2 + (1 : Int32)) + v3)]) (rest := []) (lo2 := [some (.ref v1), some (.int ((v2 + (1 : Int32)) + v3))]) dX9_addEntriesBehind_13 c_9_59 rfl rfl rfl (Nat.le_of_ble_eq_true rfl) (Nat.le_of_ble_eq_true rfl) rfl (Nat.le_of_ble_eq_true rfl) rfl rfl g1 g2 k
theorem bX9_addEntriesBehind_16 {d : Nat} {h : HP} {Q : Out → HP → Prop} {v0 : Nat} {v1 : Nat} {v2 : Int32} {v3 : Int32} {u4 : Option Value} {s0 : Nat} (k : ((s0 = 0) → WP d mX9_addEntriesBehind 2 [some (.ref v0), some (.ref v1), some (.int v2), some (.int (v3 + (1 : Int32))), some (.ref s0)] [] h Q) ∧ ((¬ (s0 = 0)) → (hK h v0 = 9) ∧ ((25 ≤ hK h (hR h 909 v0) ∧ hK h (hR h 909 v0) ≤ 29) ∧ ((inA h (hR h 909 v0) (hI h 910 v0) = true) ∧ ((1 < s0 ∧ hK h s0 = acl (hK h (hR h 909 v0) - 25)) ∧ (WP d mX9_addEntriesBehind 2 [some (.ref v0), some (.ref v1), some (.int v2), some (.int (v3 + (1 : Int32))), some (.ref s0)] [] (sI (sAR h (hR h 909 v0) ((hI h 910 v0)).toNatClampNeg s0) 910 v0 ((hI h 910 v0) + (1 : Int32))) Q)))))) : WP d mX9_addEntriesBehind 16 [some (.ref v0), some (.ref v1), some (.int v2), some (.int v3), u4] [.ref s0] h Q := by
  refine w_astore (lo' := [some (.ref v0), some (.ref v1), some (.int v2), some (.int v3), some (.ref s0)]) dX9_addEntriesBehind_16 (ltQ rfl) rfl ?_
  refine w_aload dX9_addEntriesBehind_18 rfl ?_
  refine w_ifnull (pc' := 44) dX9_addEntriesBehind_20 rfl rfl ⟨fun c => ?_, fun c => ?_⟩
  · replace k := k.1 c
    refine w_iinc (lo' := [some (.ref v0), some (.ref v1), some (.int v2), some (.int (v3 + (1 : Int32))), some (.ref s0)]) dX9_addEntriesBehind_44 rfl i1_1 rfl ?_
    refine w_goto (pc' := 2) dX9_addEntriesBehind_47 rfl rfl ?_
    exact k
  · replace k := k.2 c
    refine w_aload_n dX9_addEntriesBehind_23 rfl ?_
    obtain ⟨g1, k⟩ := k
    refine w_getR dX9_addEntriesBehind_24 f_9_11 t_9_9 g1 ?_
    refine w_aload_n dX9_addEntriesBehind_27 rfl ?_
    refine w_getI dX9_addEntriesBehind_28 f_9_47 t_9_10 g1 ?_
    refine w_aload dX9_addEntriesBehind_31 rfl ?_
    obtain ⟨g2, k⟩ := k
    obtain ⟨g3, k⟩ := k
    obtain ⟨g4, k⟩ := k
    refine w_aastore dX9_addEntriesBehind_33 rfl g3 g2.1 g2.2 g4.1 g4.2 ?_
    refine w_aload_n dX9_addEntriesBehind_34 rfl ?_
    refine w_dup dX9_addEntriesBehind_35 rfl ?_
    refine w_getI dX9_addEntriesBehind_36 f_9_47 t_9_10 g1 ?_
    refine w_iconst dX9_addEntriesBehind_39 i1_1 ?_
    refine w_iadd dX9_addEntriesBehind_40 ?_
    refine w_putI dX9_addEntriesBehind_41 f_9_47 t_9_10 (pf_nf n_9_10) g1 ?_
    refine w_iinc (lo' := [some (.ref v0), some (.ref v1), some (.int v2), some (.int (v3 + (1 : Int32))), some (.ref s0)]) dX9_addEntriesBehind_44 rfl i1_1 rfl ?_
    refine w_goto (pc' := 2) dX9_addEntriesBehind_47 rfl rfl ?_
    exact k
theorem bX10_init_0 {d : Nat} {h : HP} {Q : Out → HP → Prop} {v0 : Nat} {u1 : Option Value} (k : (1 < v0) ∧ ((hK (nw h 26 60 60) v0 = 10) ∧ ((hK (nw (sR (nw h 26 60 60) 1003 v0 (hN h)) 21 25 25) v0 = 10) ∧ ((1 < (hN (sR (nw (sR (nw h 26 60 60) 1003 v0 (hN h)) 21 25 25) 1004 v0 (hN (sR (nw h 26 60 60) 1003 v0 (hN h)))))) ∧ (WP d mX9_init 0 [some (.ref (hN (sR (nw (sR (nw h 26 60 60) 1003 v0 (hN h)) 21 25 25) 1004 v0 (hN (sR (nw h 26 60 60) 1003 v0 (hN h))))))] [] (nw (sR (nw (sR (nw h 26 60 60) 1003 v0 (hN h)) 21 25 25) 1004 v0 (hN (sR (nw h 26 60 60) 1003 v0 (hN h)))) 9 0 14) (KK d mX10_init mX9_init 26 [some (.ref v0), u1] [.ref (hN (sR (nw (sR (nw h 26 60 60) 1003 v0 (hN h)) 21 25 25) 1004 v0 (hN (sR (nw h 26 60 60) 1003 v0 (hN h))))), .ref v0] Q)))))) : WP (d + 1) mX10_init 0 [some (.ref v0), u1] [] h Q := by
  refine w_aload_n dX10_init_0 rfl ?_
  obtain ⟨g1, k⟩ := k
  refine w_obj dX10_init_1 c_10_3 (Nat.le_of_ble_eq_true rfl) rfl g1 ?_
  refine w_aload_n dX10_init_4 rfl ?_
  refine w_bipush dX10_init_5 i2_60 ?_
  refine w_anew (m := 60) dX10_init_7 (by decide) (by decide) (by decide) ar_10_9 ?_
  obtain ⟨g2, k⟩ := k
  refine w_putR dX10_init_10 f_10_11 t_10_3 (pf_in rfl rfl) g2 ?_
  refine w_aload_n dX10_init_13 rfl ?_
  refine w_bipush dX10_init_14 i2_25 ?_
  refine w_nar_boolean (m := 25) dX10_init_16 (by decide) (by decide) (by decide) ?_
  obtain ⟨g3, k⟩ := k
  refine w_putR dX10_init_18 f_10_17 t_10_4 (pf_in rfl rfl) g3 ?_
  refine w_aload_n dX10_init_21 rfl ?_
  refine w_new dX10_init_22 nr_10_9 ?_
  refine w_dup dX10_init_25 rfl ?_
  obtain ⟨g4, k⟩ := k
  exact w_nest (as1 := [.ref (hN (sR (nw (sR (nw h 26 60 60) 1003 v0 (hN h)) 21 25 25) 1004 v0 (hN (sR (nw h 26 60 60) 1003 v0 (hN h)))))]) (as2 := [.ref (hN (sR (nw (sR (nw h 26 60 60) 1003 v0 (hN h)) 21 25 25) 1004 v0 (hN (sR (nw h 26 60 60) 1003 v0 (hN h)))))]) (rest := [.ref (hN (sR (nw (sR (nw h 26 60 60) 1003 v0 (hN h)) 21 25 25) 1004 v0 (hN (sR (nw h 26 60 60) 1003 v0 (hN h))))), .ref v0]) (lo2 := [some (.ref (hN (sR (nw (sR (nw h 26 60 60) 1003 v0 (hN h)) 21 25 25) 1004 v0 (hN (sR (nw h 26 60 60) 1003 v0 (hN h))))))]) dX10_init_26 c_10_21 rfl rfl rfl (Nat.le_of_ble_eq_true rfl) (Nat.le_of_ble_eq_true rfl) rfl (Nat.le_of_ble_eq_true rfl) rfl rfl g4 k
theorem bX10_init_29 {d : Nat} {h : HP} {Q : Out → HP → Prop} {v0 : Nat} {u1 : Option Value} {s0 : Nat} {s1 : Nat} (k : (hK h s1 = 10) ∧ ((1 < (hN h)) ∧ (WP d mX9_init 0 [some (.ref (hN h))] [] (nw (sR h 1005 s1 s0) 9 0 14) (KK d mX10_init mX9_init 37 [some (.ref v0), u1] [.ref (hN h), .ref v0] Q)))) : WP (d + 1) mX10_init 29 [some (.ref v0), u1] [.ref s0, .ref s1] h Q := by
  obtain ⟨g1, k⟩ := k
  refine w_putR dX10_init_29 f_10_22 t_10_5 (pf_nf n_10_5) g1 ?_
  refine w_aload_n dX10_init_32 rfl ?_
  refine w_new dX10_init_33 nr_10_9 ?_
  refine w_dup dX10_init_36 rfl ?_
  obtain ⟨g2, k⟩ := k
  exact w_nest (as1 := [.ref (hN h)]) (as2 := [.ref (hN h)]) (rest := [.ref (hN h), .ref v0]) (lo2 := [some (.ref (hN h))]) dX10_init_37 c_10_21 rfl rfl rfl (Nat.le_of_ble_eq_true rfl) (Nat.le_of_ble_eq_true rfl) rfl (Nat.le_of_ble_eq_true rfl) rfl rfl g2 k
theorem bX10_init_40 {d : Nat} {h : HP} {Q : Out → HP → Prop} {v0 : Nat} {u1 : Option Value} {s0 : Nat} {s1 : Nat} (k : (hK h s1 = 10) ∧ (WP d mX10_init 45 [some (.ref v0), some (.int (0 : Int32))] [] (sR h 1006 s1 s0) Q)) : WP d mX10_init 40 [some (.ref v0), u1] [.ref s0, .ref s1] h Q := by
  obtain ⟨g1, k⟩ := k
  refine w_putR dX10_init_40 f_10_26 t_10_6 (pf_in rfl rfl) g1 ?_
  refine w_iconst dX10_init_43 i1_0 ?_
  refine w_istore_n (lo' := [some (.ref v0), some (.int (0 : Int32))]) dX10_init_44 (ltQ rfl) rfl ?_
  exact k
theorem bX10_init_45 {d : Nat} {h : HP} {Q : Out → HP → Prop} {v0 : Nat} {v1 : Int32} (k : (((60 : Int32) ≤ v1) → Q (.inl none) h) ∧ ((¬ ((60 : Int32) ≤ v1)) → (hK h v0 = 10) ∧ ((1 < (hN h)) ∧ (WP d mX9_init 0 [some (.ref (hN h))] [] (nw h 9 0 14) (KK d mX10_init mX9_init 60 [some (.ref v0), some (.int v1)] [.ref (hN h), .int v1, .ref (hR h 1003 v0)] Q))))) : WP (d + 1) mX10_init 45 [some (.ref v0), some (.int v1)] [] h Q := by
  refine w_iload_n dX10_init_45 rfl ?_
  refine w_bipush dX10_init_46 i2_60 ?_
  refine w_ic_ge (pc' := 70) dX10_init_48 rfl rfl ⟨fun c => ?_, fun c => ?_⟩
  · replace k := k.1 c
    exact w_return dX10_init_70 rfl k
  · replace k := k.2 c
    refine w_aload_n dX10_init_51 rfl ?_
    obtain ⟨g1, k⟩ := k
    refine w_getR dX10_init_52 f_10_11 t_10_3 g1 ?_
    refine w_iload_n dX10_init_55 rfl ?_
    refine w_new dX10_init_56 nr_10_9 ?_
    refine w_dup dX10_init_59 rfl ?_
    obtain ⟨g2, k⟩ := k
    exact w_nest (as1 := [.ref (hN h)]) (as2 := [.ref (hN h)]) (rest := [.ref (hN h), .int v1, .ref (hR h 1003 v0)]) (lo2 := [some (.ref (hN h))]) dX10_init_60 c_10_21 rfl rfl rfl (Nat.le_of_ble_eq_true rfl) (Nat.le_of_ble_eq_true rfl) rfl (Nat.le_of_ble_eq_true rfl) rfl rfl g2 k
theorem bX10_init_63 {d : Nat} {h : HP} {Q : Out → HP → Prop} {v0 : Nat} {v1 : Int32} {s0 : Nat} {s1 : Int32} {s2 : Nat} (k : (25 ≤ hK h s2 ∧ hK h s2 ≤ 29) ∧ ((inA h s2 s1 = true) ∧ ((1 < s0 ∧ hK h s0 = acl (hK h s2 - 25)) ∧ (WP d mX10_init 45 [some (.ref v0), some (.int (v1 + (1 : Int32)))] [] (sAR h s2 (s1).toNatClampNeg s0) Q)))) : WP d mX10_init 63 [some (.ref v0), some (.int v1)] [.ref s0, .int s1, .ref s2] h Q := by
  obtain ⟨g1, k⟩ := k
  obtain ⟨g2, k⟩ := k
  obtain ⟨g3, k⟩ := k
  refine w_aastore dX10_init_63 rfl g2 g1.1 g1.2 g3.1 g3.2 ?_
  refine w_iinc (lo' := [some (.ref v0), some (.int (v1 + (1 : Int32)))]) dX10_init_64 rfl i1_1 rfl ?_
  refine w_goto (pc' := 45) dX10_init_67 rfl rfl ?_
  exact k
theorem bX10_renew_0 {d : Nat} {h : HP} {Q : Out → HP → Prop} {v0 : Nat} {v1 : Int32} {u2 : Option Value} (k : (hK h v0 = 10) ∧ (WP d mX10_renew 17 [some (.ref v0), some (.int v1), some (.int (0 : Int32))] [] (sI (sI (sI h 1000 v0 v1) 1001 v0 (0 : Int32)) 1002 v0 (0 : Int32)) Q)) : WP d mX10_renew 0 [some (.ref v0), some (.int v1), u2] [] h Q := by
  refine w_aload_n dX10_renew_0 rfl ?_
  refine w_iload_n dX10_renew_1 rfl ?_
  obtain ⟨g1, k⟩ := k
  refine w_putI dX10_renew_2 f_10_29 t_10_0 (pf_nf n_10_0) g1 ?_
  refine w_aload_n dX10_renew_5 rfl ?_
  refine w_iconst dX10_renew_6 i1_0 ?_
  refine w_putI dX10_renew_7 f_10_33 t_10_1 (pf_nf n_10_1) g1 ?_
  refine w_aload_n dX10_renew_10 rfl ?_
  refine w_iconst dX10_renew_11 i1_0 ?_
  refine w_putI dX10_renew_12 f_10_36 t_10_2 (pf_nf n_10_2) g1 ?_
  refine w_iconst dX10_renew_15 i1_0 ?_
  refine w_istore_n (lo' := [some (.ref v0), some (.int v1), some (.int (0 : Int32))]) dX10_renew_16 (ltQ rfl) rfl ?_
  exact k
theorem bX10_renew_17 {d : Nat} {h : HP} {Q : Out → HP → Prop} {v0 : Nat} {v1 : Int32} {v2 : Int32} (k : (hK h v0 = 10) ∧ ((19 ≤ hK h (hR h 1004 v0) ∧ hK h (hR h 1004 v0) ≤ 29) ∧ ((((Int32.ofNat (hL h (hR h 1004 v0))) ≤ v2) → Q (.inl none) h) ∧ ((¬ ((Int32.ofNat (hL h (hR h 1004 v0))) ≤ v2)) → (hK h (hR h 1004 v0) = 21) ∧ ((inA h (hR h 1004 v0) v2 = true) ∧ (WP d mX10_renew 17 [some (.ref v0), some (.int v1), some (.int (v2 + (1 : Int32)))] [] (sAI h (hR h 1004 v0) (v2).toNatClampNeg (0 : Int32)) Q)))))) : WP d mX10_renew 17 [some (.ref v0), some (.int v1), some (.int v2)] [] h Q := by
  refine w_iload_n dX10_renew_17 rfl ?_
  refine w_aload_n dX10_renew_18 rfl ?_
  obtain ⟨g1, k⟩ := k
  refine w_getR dX10_renew_19 f_10_17 t_10_4 g1 ?_
  obtain ⟨g2, k⟩ := k
  refine w_alen dX10_renew_22 rfl g2.1 g2.2 ?_
  refine w_ic_ge (pc' := 39) dX10_renew_23 rfl rfl ⟨fun c => ?_, fun c => ?_⟩
  · replace k := k.1 c
    exact w_return dX10_renew_39 rfl k
  · replace k := k.2 c
    refine w_aload_n dX10_renew_26 rfl ?_
    refine w_getR dX10_renew_27 f_10_17 t_10_4 g1 ?_
    refine w_iload_n dX10_renew_30 rfl ?_
    refine w_iconst dX10_renew_31 i1_0 ?_
    obtain ⟨g3, k⟩ := k
    obtain ⟨g4, k⟩ := k
    refine w_bastore dX10_renew_32 g3 g4 rfl ?_
    refine w_iinc (lo' := [some (.ref v0), some (.int v1), some (.int (v2 + (1 : Int32)))]) dX10_renew_33 rfl i1_1 rfl ?_
    refine w_goto (pc' := 17) dX10_renew_36 rfl rfl ?_
    exact k
theorem bX10_most_0 {d : Nat} {h : HP} {Q : Out → HP → Prop} {v0 : Nat} (k : (hK h v0 = 10) ∧ (Q (.inl (some (.int (((hI h 1000 v0) / (2 : Int32)) + (1 : Int32))))) h)) : WP d mX10_most 0 [some (.ref v0)] [] h Q := by
  refine w_aload_n dX10_most_0 rfl ?_
  obtain ⟨g1, k⟩ := k
  refine w_getI dX10_most_1 f_10_29 t_10_0 g1 ?_
  refine w_iconst dX10_most_4 i1_2 ?_
  refine w_idiv dX10_most_5 (by decide) ?_
  refine w_iconst dX10_most_6 i1_1 ?_
  refine w_iadd dX10_most_7 ?_
  exact w_ireturn dX10_most_8 rfl k
theorem bX10_areMost_0 {d : Nat} {h : HP} {Q : Out → HP → Prop} {v0 : Nat} {v1 : Int32} (k : WP d mJ6_bitCount_0f7a4 0 [some (.int v1)] [] h (KK d mX10_areMost mJ6_bitCount_0f7a4 1 [some (.ref v0), some (.int v1)] [] Q)) : WP (d + 1) mX10_areMost 0 [some (.ref v0), some (.int v1)] [] h Q := by
  refine w_iload_n dX10_areMost_0 rfl ?_
  exact w_stat (as1 := [.int v1]) (as2 := [.int v1]) (rest := []) (lo2 := [some (.int v1)]) dX10_areMost_1 c_10_39 rfl rfl rfl (Nat.le_of_ble_eq_true rfl) (Nat.le_of_ble_eq_true rfl) rfl (Nat.le_of_ble_eq_true rfl) rfl k
theorem bX10_areMost_4 {d : Nat} {h : HP} {Q : Out → HP → Prop} {v0 : Nat} {v1 : Int32} {s0 : Int32} (k : (1 < v0) ∧ ((hK h v0 = 10) ∧ (WP d mX10_most 0 [some (.ref v0)] [] h (KK d mX10_areMost mX10_most 5 [some (.ref v0), some (.int v1)] [.int s0] Q)))) : WP (d + 1) mX10_areMost 4 [some (.ref v0), some (.int v1)] [.int s0] h Q := by
  refine w_aload_n dX10_areMost_4 rfl ?_
  obtain ⟨g1, k⟩ := k
  obtain ⟨g2, k⟩ := k
  exact w_virt (as1 := [.ref v0]) (as2 := [.ref v0]) (rest := [.int s0]) (lo2 := [some (.ref v0)]) dX10_areMost_5 c_10_45 rfl rfl rfl (Nat.le_of_ble_eq_true rfl) (Nat.le_of_ble_eq_true rfl) rfl (Nat.le_of_ble_eq_true rfl) rfl rfl g1 g2 k
theorem bX10_areMost_8 {d : Nat} {h : HP} {Q : Out → HP → Prop} {v0 : Nat} {v1 : Int32} {s0 : Int32} {s1 : Int32} (k : ((s1 < s0) → Q (.inl (some (.int (0 : Int32)))) h) ∧ ((¬ (s1 < s0)) → Q (.inl (some (.int (1 : Int32)))) h)) : WP d mX10_areMost 8 [some (.ref v0), some (.int v1)] [.int s0, .int s1] h Q := by
  refine w_ic_lt (pc' := 15) dX10_areMost_8 rfl rfl ⟨fun c => ?_, fun c => ?_⟩
  · replace k := k.1 c
    refine w_iconst dX10_areMost_15 i1_0 ?_
    exact w_ireturn dX10_areMost_16 rfl k
  · replace k := k.2 c
    refine w_iconst dX10_areMost_11 i1_1 ?_
    refine w_goto (pc' := 16) dX10_areMost_12 rfl rfl ?_
    exact w_ireturn dX10_areMost_16 rfl k
theorem bX10_at_0 {d : Nat} {h : HP} {Q : Out → HP → Prop} {v0 : Nat} {v1 : Int32} (k : ((v1 < 0) → Q (.inl (some (.ref 0))) h) ∧ ((¬ (v1 < 0)) → (hK h v0 = 10) ∧ ((((hI h 1001 v0) ≤ v1) → Q (.inl (some (.ref 0))) h) ∧ ((¬ ((hI h 1001 v0) ≤ v1)) → (25 ≤ hK h (hR h 1003 v0) ∧ hK h (hR h 1003 v0) ≤ 29) ∧ ((inA h (hR h 1003 v0) v1 = true) ∧ (Q (.inl (some (.ref (hAR h (hR h 1003 v0) (v1).toNatClampNeg)))) h)))))) : WP d mX10_at 0 [some (.ref v0), some (.int v1)] [] h Q := by
  refine w_iload_n dX10_at_0 rfl ?_
  refine w_if_lt (pc' := 21) dX10_at_1 rfl rfl ⟨fun c => ?_, fun c => ?_⟩
  · replace k := k.1 c
    refine w_null dX10_at_21 ?_
    exact w_areturn dX10_at_22 rfl k
  · replace k := k.2 c
    refine w_iload_n dX10_at_4 rfl ?_
    refine w_aload_n dX10_at_5 rfl ?_
    obtain ⟨g1, k⟩ := k
    refine w_getI dX10_at_6 f_10_33 t_10_1 g1 ?_
    refine w_ic_ge (pc' := 21) dX10_at_9 rfl rfl ⟨fun c => ?_, fun c => ?_⟩
    · replace k := k.1 c
      refine w_null dX10_at_21 ?_
      exact w_areturn dX10_at_22 rfl k
    · replace k := k.2 c
      refine w_aload_n dX10_at_12 rfl ?_
      refine w_getR dX10_at_13 f_10_11 t_10_3 g1 ?_
      refine w_iload_n dX10_at_16 rfl ?_
      obtain ⟨g2, k⟩ := k
      obtain ⟨g3, k⟩ := k
      refine w_aaload dX10_at_17 rfl g3 g2.1 g2.2 ?_
      refine w_goto (pc' := 22) dX10_at_18 rfl rfl ?_
      exact w_areturn dX10_at_22 rfl k
theorem bX10_send_0 {d : Nat} {h : HP} {Q : Out → HP → Prop} {v0 : Nat} {v1 : Int32} {v2 : Int32} {v3 : Int32} {v4 : Int32} {u5 : Option Value} (k : (hK h v0 = 10) ∧ ((((60 : Int32) ≤ (hI h 1001 v0)) → (1 < (hR h 1006 v0)) ∧ ((hK h (hR h 1006 v0) = 9) ∧ (WP d mX9_start 0 [some (.ref (hR h 1006 v0)), some (.int v1), some (.int v2), some (.int v3), some (.int v4)] [] (sI h 1002 v0 ((hI h 1002 v0) + (1 : Int32))) (KK d mX10_send mX9_start 53 [some (.ref v0), some (.int v1), some (.int v2), some (.int v3), some (.int v4), some (.ref (hR h 1006 v0))] [] Q)))) ∧ ((¬ ((60 : Int32) ≤ (hI h 1001 v0))) → (25 ≤ hK h (hR h 1003 v0) ∧ hK h (hR h 1003 v0) ≤ 29) ∧ ((inA h (hR h 1003 v0) (hI h 1001 v0) = true) ∧ ((1 < (hAR h (hR h 1003 v0) ((hI h 1001 v0)).toNatClampNeg)) ∧ ((hK h (hAR h (hR h 1003 v0) ((hI h 1001 v0)).toNatClampNeg) = 9) ∧ (WP d mX9_start 0 [some (.ref (hAR h (hR h 1003 v0) ((hI h 1001 v0)).toNatClampNeg)), some (.int v1), some (.int v2), some (.int v3), some (.int v4)] [] (sI (sI h 1001 v0 ((hI h 1001 v0) + (1 : Int32))) 1002 v0 ((hI (sI h 1001 v0 ((hI h 1001 v0) + (1 : Int32))) 1002 v0) + (1 : Int32))) (KK d mX10_send mX9_start 53 [some (.ref v0), some (.int v1), some (.int v2), some (.int v3), some (.int v4), some (.ref (hAR h (hR h 1003 v0) ((hI h 1001 v0)).toNatClampNeg))] [] Q)))))))) : WP (d + 1) mX10_send 0 [some (.ref v0), some (.int v1), some (.int v2), some (.int v3), some (.int v4), u5] [] h Q := by
  refine w_aload_n dX10_send_0 rfl ?_
  obtain ⟨g1, k⟩ := k
  refine w_getR dX10_send_1 f_10_26 t_10_6 g1 ?_
  refine w_astore (lo' := [some (.ref v0), some (.int v1), some (.int v2), some (.int v3), some (.int v4), some (.ref (hR h 1006 v0))]) dX10_send_4 (ltQ rfl) rfl ?_
  refine w_aload_n dX10_send_6 rfl ?_
  refine w_getI dX10_send_7 f_10_33 t_10_1 g1 ?_
  refine w_bipush dX10_send_10 i2_60 ?_
  refine w_ic_ge (pc' := 36) dX10_send_12 rfl rfl ⟨fun c => ?_, fun c => ?_⟩
  · replace k := k.1 c
    refine w_aload_n dX10_send_36 rfl ?_
    refine w_dup dX10_send_37 rfl ?_
    refine w_getI dX10_send_38 f_10_36 t_10_2 g1 ?_
    refine w_iconst dX10_send_41 i1_1 ?_
    refine w_iadd dX10_send_42 ?_
    refine w_putI dX10_send_43 f_10_36 t_10_2 (pf_nf n_10_2) g1 ?_
    refine w_aload dX10_send_46 rfl ?_
    refine w_iload_n dX10_send_48 rfl ?_
    refine w_iload_n dX10_send_49 rfl ?_
    refine w_iload_n dX10_send_50 rfl ?_
    refine w_iload dX10_send_51 rfl ?_
    obtain ⟨g2, k⟩ := k
    obtain ⟨g3, k⟩ := k
    exact w_virt (as1 := [.int v4, .int v3, .int v2, .int v1, .ref (hR h 1006 v0)]) (as2 := [.ref (hR h 1006 v0), .int v1, .int v2, .int v3, .int v4]) (rest := []) (lo2 := [some (.ref (hR h 1006 v0)), some (.int v1), some (.int v2), some (.int v3), some (.int v4)]) dX10_send_53 c_10_49 rfl rfl rfl (Nat.le_of_ble_eq_true rfl) (Nat.le_of_ble_eq_true rfl) rfl (Nat.le_of_ble_eq_true rfl) rfl rfl g2 g3 k
  · replace k := k.2 c
    refine w_aload_n dX10_send_15 rfl ?_
    refine w_getR dX10_send_16 f_10_11 t_10_3 g1 ?_
    refine w_aload_n dX10_send_19 rfl ?_
    refine w_getI dX10_send_20 f_10_33 t_10_1 g1 ?_
    obtain ⟨g4, k⟩ := k
    obtain ⟨g5, k⟩ := k
    refine w_aaload dX10_send_23 rfl g5 g4.1 g4.2 ?_
    refine w_astore (lo' := [some (.ref v0), some (.int v1), some (.int v2), some (.int v3), some (.int v4), some (.ref (hAR h (hR h 1003 v0) ((hI h 1001 v0)).toNatClampNeg))]) dX10_send_24 (ltQ rfl) rfl ?_
    refine w_aload_n dX10_send_26 rfl ?_
    refine w_dup dX10_send_27 rfl ?_
    refine w_getI dX10_send_28 f_10_33 t_10_1 g1 ?_
    refine w_iconst dX10_send_31 i1_1 ?_
    refine w_iadd dX10_send_32 ?_
    refine w_putI dX10_send_33 f_10_33 t_10_1 (pf_nf n_10_1) g1 ?_
    refine w_aload_n dX10_send_36 rfl ?_
    refine w_dup dX10_send_37 rfl ?_
    refine w_getI dX10_send_38 f_10_36 t_10_2 g1 ?_
    refine w_iconst dX10_send_41 i1_1 ?_
    refine w_iadd dX10_send_42 ?_
    refine w_putI dX10_send_43 f_10_36 t_10_2 (pf_nf n_10_2) g1 ?_
    refine w_aload dX10_send_46 rfl ?_
    refine w_iload_n dX10_send_48 rfl ?_
    refine w_iload_n dX10_send_49 rfl ?_
    refine w_iload_n dX10_send_50 rfl ?_
    refine w_iload dX10_send_51 rfl ?_
    obtain ⟨g6, k⟩ := k
    obtain ⟨g7, k⟩ := k
    exact w_virt (as1 := [.int v4, .int v3, .int v2, .int v1, .ref (hAR h (hR h 1003 v0) ((hI h 1001 v0)).toNatClampNeg)]) (as2 := [.ref (hAR h (hR h 1003 v0) ((hI h 1001 v0)).toNatClampNeg), .int v1, .int v2, .int v3, .int v4]) (rest := []) (lo2 := [some (.ref (hAR h (hR h 1003 v0) ((hI h 1001 v0)).toNatClampNeg)), some (.int v1), some (.int v2), some (.int v3), some (.int v4)]) dX10_send_53 c_10_49 rfl rfl rfl (Nat.le_of_ble_eq_true rfl) (Nat.le_of_ble_eq_true rfl) rfl (Nat.le_of_ble_eq_true rfl) rfl rfl g6 g7 k
theorem bX10_send_56 {d : Nat} {h : HP} {Q : Out → HP → Prop} {v0 : Nat} {v1 : Int32} {v2 : Int32} {v3 : Int32} {v4 : Int32} {v5 : Nat} (k : Q (.inl (some (.ref v5))) h) : WP d mX10_send 56 [some (.ref v0), some (.int v1), some (.int v2), some (.int v3), some (.int v4), some (.ref v5)] [] h Q := by
  refine w_aload dX10_send_56 rfl ?_
  exact w_areturn dX10_send_58 rfl k
theorem bX10_takeOut_0 {d : Nat} {h : HP} {Q : Out → HP → Prop} {v0 : Nat} {v1 : Int32} {u2 : Option Value} {u3 : Option Value} (k : ((v1 < 0) → Q (.inl none) h) ∧ ((¬ (v1 < 0)) → (hK h v0 = 10) ∧ (((v1 < (hI h 1001 v0)) → (25 ≤ hK h (hR h 1003 v0) ∧ hK h (hR h 1003 v0) ≤ 29) ∧ ((inA h (hR h 1003 v0) v1 = true) ∧ (WP d mX10_takeOut 22 [some (.ref v0), some (.int v1), some (.ref (hAR h (hR h 1003 v0) (v1).toNatClampNeg)), some (.int v1)] [] h Q))) ∧ ((¬ (v1 < (hI h 1001 v0))) → Q (.inl none) h)))) : WP d mX10_takeOut 0 [some (.ref v0), some (.int v1), u2, u3] [] h Q := by
  refine w_iload_n dX10_takeOut_0 rfl ?_
  refine w_if_lt (pc' := 12) dX10_takeOut_1 rfl rfl ⟨fun c => ?_, fun c => ?_⟩
  · replace k := k.1 c
    exact w_return dX10_takeOut_12 rfl k
  · replace k := k.2 c
    refine w_iload_n dX10_takeOut_4 rfl ?_
    refine w_aload_n dX10_takeOut_5 rfl ?_
    obtain ⟨g1, k⟩ := k
    refine w_getI dX10_takeOut_6 f_10_33 t_10_1 g1 ?_
    refine w_ic_lt (pc' := 13) dX10_takeOut_9 rfl rfl ⟨fun c => ?_, fun c => ?_⟩
    · replace k := k.1 c
      refine w_aload_n dX10_takeOut_13 rfl ?_
      refine w_getR dX10_takeOut_14 f_10_11 t_10_3 g1 ?_
      refine w_iload_n dX10_takeOut_17 rfl ?_
      obtain ⟨g2, k⟩ := k
      obtain ⟨g3, k⟩ := k
      refine w_aaload dX10_takeOut_18 rfl g3 g2.1 g2.2 ?_
      refine w_astore_n (lo' := [some (.ref v0), some (.int v1), some (.ref (hAR h (hR h 1003 v0) (v1).toNatClampNeg)), u3]) dX10_takeOut_19 (ltQ rfl) rfl ?_
      refine w_iload_n dX10_takeOut_20 rfl ?_
      refine w_istore_n (lo' := [some (.ref v0), some (.int v1), some (.ref (hAR h (hR h 1003 v0) (v1).toNatClampNeg)), some (.int v1)]) dX10_takeOut_21 (ltQ rfl) rfl ?_
      exact k
    · replace k := k.2 c
      exact w_return dX10_takeOut_12 rfl k
theorem bX10_takeOut_22 {d : Nat} {h : HP} {Q : Out → HP → Prop} {v0 : Nat} {v1 : Int32} {v2 : Nat} {v3 : Int32} (k : (hK h v0 = 10) ∧ (((((hI h 1001 v0) - (1 : Int32)) ≤ v3) → (25 ≤ hK h (hR h 1003 v0) ∧ hK h (hR h 1003 v0) ≤ 29) ∧ ((inA h (hR h 1003 v0) (hI (sI h 1001 v0 ((hI h 1001 v0) - (1 : Int32))) 1001 v0) = true) ∧ ((1 < (hR h 1005 v0) ∧ hK h (hR h 1005 v0) = acl (hK h (hR h 1003 v0) - 25)) ∧ (Q (.inl none) (sR (sAR (sI h 1001 v0 ((hI h 1001 v0) - (1 : Int32))) (hR h 1003 v0) ((hI (sI h 1001 v0 ((hI h 1001 v0) - (1 : Int32))) 1001 v0)).toNatClampNeg (hR h 1005 v0)) 1005 v0 v2))))) ∧ ((¬ (((hI h 1001 v0) - (1 : Int32)) ≤ v3)) → (25 ≤ hK h (hR h 1003 v0) ∧ hK h (hR h 1003 v0) ≤ 29) ∧ ((inA h (hR h 1003 v0) (v3 + (1 : Int32)) = true) ∧ ((inA h (hR h 1003 v0) v3 = true) ∧ ((1 < (hAR h (hR h 1003 v0) ((v3 + (1 : Int32))).toNatClampNeg) ∧ hK h (hAR h (hR h 1003 v0) ((v3 + (1 : Int32))).toNatClampNeg) = acl (hK h (hR h 1003 v0) - 25)) ∧ (WP d mX10_takeOut 22 [some (.ref v0), some (.int v1), some (.ref v2), some (.int (v3 + (1 : Int32)))] [] (sAR h (hR h 1003 v0) (v3).toNatClampNeg (hAR h (hR h 1003 v0) ((v3 + (1 : Int32))).toNatClampNeg)) Q))))))) : WP d mX10_takeOut 22 [some (.ref v0), some (.int v1), some (.ref v2), some (.int v3)] [] h Q := by
  refine w_iload_n dX10_takeOut_22 rfl ?_
  refine w_aload_n dX10_takeOut_23 rfl ?_
  obtain ⟨g1, k⟩ := k
  refine w_getI dX10_takeOut_24 f_10_33 t_10_1 g1 ?_
  refine w_iconst dX10_takeOut_27 i1_1 ?_
  refine w_isub dX10_takeOut_28 ?_
  refine w_ic_ge (pc' := 52) dX10_takeOut_29 rfl rfl ⟨fun c => ?_, fun c => ?_⟩
  · replace k := k.1 c
    refine w_aload_n dX10_takeOut_52 rfl ?_
    refine w_dup dX10_takeOut_53 rfl ?_
    refine w_getI dX10_takeOut_54 f_10_33 t_10_1 g1 ?_
    refine w_iconst dX10_takeOut_57 i1_1 ?_
    refine w_isub dX10_takeOut_58 ?_
    refine w_putI dX10_takeOut_59 f_10_33 t_10_1 (pf_nf n_10_1) g1 ?_
    refine w_aload_n dX10_takeOut_62 rfl ?_
    refine w_getR dX10_takeOut_63 f_10_11 t_10_3 g1 ?_
    refine w_aload_n dX10_takeOut_66 rfl ?_
    refine w_getI dX10_takeOut_67 f_10_33 t_10_1 g1 ?_
    refine w_aload_n dX10_takeOut_70 rfl ?_
    refine w_getR dX10_takeOut_71 f_10_22 t_10_5 g1 ?_
    obtain ⟨g2, k⟩ := k
    obtain ⟨g3, k⟩ := k
    obtain ⟨g4, k⟩ := k
    refine w_aastore dX10_takeOut_74 rfl g3 g2.1 g2.2 g4.1 g4.2 ?_
    refine w_aload_n dX10_takeOut_75 rfl ?_
    refine w_aload_n dX10_takeOut_76 rfl ?_
    refine w_putR dX10_takeOut_77 f_10_22 t_10_5 (pf_nf n_10_5) g1 ?_
    exact w_return dX10_takeOut_80 rfl k
  · replace k := k.2 c
    refine w_aload_n dX10_takeOut_32 rfl ?_
    refine w_getR dX10_takeOut_33 f_10_11 t_10_3 g1 ?_
    refine w_iload_n dX10_takeOut_36 rfl ?_
    refine w_aload_n dX10_takeOut_37 rfl ?_
    refine w_getR dX10_takeOut_38 f_10_11 t_10_3 g1 ?_
    refine w_iload_n dX10_takeOut_41 rfl ?_
    refine w_iconst dX10_takeOut_42 i1_1 ?_
    refine w_iadd dX10_takeOut_43 ?_
    obtain ⟨g5, k⟩ := k
    obtain ⟨g6, k⟩ := k
    refine w_aaload dX10_takeOut_44 rfl g6 g5.1 g5.2 ?_
    obtain ⟨g7, k⟩ := k
    obtain ⟨g8, k⟩ := k
    refine w_aastore dX10_takeOut_45 rfl g7 g5.1 g5.2 g8.1 g8.2 ?_
    refine w_iinc (lo' := [some (.ref v0), some (.int v1), some (.ref v2), some (.int (v3 + (1 : Int32)))]) dX10_takeOut_46 rfl i1_1 rfl ?_
    refine w_goto (pc' := 22) dX10_takeOut_49 rfl rfl ?_
    exact k
theorem bX10_isCut_0 {d : Nat} {h : HP} {Q : Out → HP → Prop} {v0 : Nat} {v1 : Int32} {v2 : Int32} (k : (hK h v0 = 10) ∧ ((hK h (hR h 1004 v0) = 21) ∧ ((inA h (hR h 1004 v0) ((v1 * (5 : Int32)) + v2) = true) ∧ ((isZ (hAI h (hR h 1004 v0) (((v1 * (5 : Int32)) + v2)).toNatClampNeg) = true) ∧ (Q (.inl (some (.int (hAI h (hR h 1004 v0) (((v1 * (5 : Int32)) + v2)).toNatClampNeg)))) h))))) : WP d mX10_isCut 0 [some (.ref v0), some (.int v1), some (.int v2)] [] h Q := by
  refine w_aload_n dX10_isCut_0 rfl ?_
  obtain ⟨g1, k⟩ := k
  refine w_getR dX10_isCut_1 f_10_17 t_10_4 g1 ?_
  refine w_iload_n dX10_isCut_4 rfl ?_
  refine w_iconst dX10_isCut_5 i1_5 ?_
  refine w_imul dX10_isCut_6 ?_
  refine w_iload_n dX10_isCut_7 rfl ?_
  refine w_iadd dX10_isCut_8 ?_
  obtain ⟨g2, k⟩ := k
  obtain ⟨g3, k⟩ := k
  refine w_baload dX10_isCut_9 g2 g3 ?_
  obtain ⟨g4, k⟩ := k
  exact w_ireturn dX10_isCut_10 g4 k
theorem bX10_switchCut_0 {d : Nat} {h : HP} {Q : Out → HP → Prop} {v0 : Nat} {v1 : Int32} {v2 : Int32} {u3 : Option Value} (k : (1 < v0) ∧ ((hK h v0 = 10) ∧ (WP d mX10_isCut 0 [some (.ref v0), some (.int v1), some (.int v2)] [] h (KK d mX10_switchCut mX10_isCut 3 [some (.ref v0), some (.int v1), some (.int v2), u3] [] Q)))) : WP (d + 1) mX10_switchCut 0 [some (.ref v0), some (.int v1), some (.int v2), u3] [] h Q := by
  refine w_aload_n dX10_switchCut_0 rfl ?_
  refine w_iload_n dX10_switchCut_1 rfl ?_
  refine w_iload_n dX10_switchCut_2 rfl ?_
  obtain ⟨g1, k⟩ := k
  obtain ⟨g2, k⟩ := k
  exact w_virt (as1 := [.int v2, .int v1, .ref v0]) (as2 := [.ref v0, .int v1, .int v2]) (rest := []) (lo2 := [some (.ref v0), some (.int v1), some (.int v2)]) dX10_switchCut_3 c_10_53 rfl rfl rfl (Nat.le_of_ble_eq_true rfl) (Nat.le_of_ble_eq_true rfl) rfl (Nat.le_of_ble_eq_true rfl) rfl rfl g1 g2 k
theorem bX10_switchCut_6 {d : Nat} {h : HP} {Q : Out → HP → Prop} {v0 : Nat} {v1 : Int32} {v2 : Int32} {u3 : Option Value} {s0 : Int32} (k : ((¬ s0 = 0) → (hK h v0 = 10) ∧ ((hK h (hR h 1004 v0) = 21) ∧ ((inA h (hR h 1004 v0) ((v1 * (5 : Int32)) + v2) = true) ∧ ((inA h (hR h 1004 v0) ((v2 * (5 : Int32)) + v1) = true) ∧ (Q (.inl (some (.int (0 : Int32)))) (sAI (sAI h (hR h 1004 v0) (((v1 * (5 : Int32)) + v2)).toNatClampNeg (0 : Int32)) (hR h 1004 v0) (((v2 * (5 : Int32)) + v1)).toNatClampNeg (0 : Int32))))))) ∧ ((¬ (¬ s0 = 0)) → (hK h v0 = 10) ∧ ((hK h (hR h 1004 v0) = 21) ∧ ((inA h (hR h 1004 v0) ((v1 * (5 : Int32)) + v2) = true) ∧ ((inA h (hR h 1004 v0) ((v2 * (5 : Int32)) + v1) = true) ∧ (Q (.inl (some (.int (1 : Int32)))) (sAI (sAI h (hR h 1004 v0) (((v1 * (5 : Int32)) + v2)).toNatClampNeg (1 : Int32)) (hR h 1004 v0) (((v2 * (5 : Int32)) + v1)).toNatClampNeg (1 : Int32)))))))) : WP d mX10_switchCut 6 [some (.ref v0), some (.int v1), some (.int v2), u3] [.int s0] h Q := by
  refine w_if_ne (pc' := 13) dX10_switchCut_6 rfl rfl ⟨fun c => ?_, fun c => ?_⟩
  · replace k := k.1 c
    refine w_iconst dX10_switchCut_13 i1_0 ?_
    refine w_istore_n (lo' := [some (.ref v0), some (.int v1), some (.int v2), some (.int (0 : Int32))]) dX10_switchCut_14 (ltQ rfl) rfl ?_
    refine w_aload_n dX10_switchCut_15 rfl ?_
    obtain ⟨g1, k⟩ := k
    refine w_getR dX10_switchCut_16 f_10_17 t_10_4 g1 ?_
    refine w_iload_n dX10_switchCut_19 rfl ?_
    refine w_iconst dX10_switchCut_20 i1_5 ?_
    refine w_imul dX10_switchCut_21 ?_
    refine w_iload_n dX10_switchCut_22 rfl ?_
    refine w_iadd dX10_switchCut_23 ?_
    refine w_iload_n dX10_switchCut_24 rfl ?_
    obtain ⟨g2, k⟩ := k
    obtain ⟨g3, k⟩ := k
    refine w_bastore dX10_switchCut_25 g2 g3 rfl ?_
    refine w_aload_n dX10_switchCut_26 rfl ?_
    refine w_getR dX10_switchCut_27 f_10_17 t_10_4 g1 ?_
    refine w_iload_n dX10_switchCut_30 rfl ?_
    refine w_iconst dX10_switchCut_31 i1_5 ?_
    refine w_imul dX10_switchCut_32 ?_
    refine w_iload_n dX10_switchCut_33 rfl ?_
    refine w_iadd dX10_switchCut_34 ?_
    refine w_iload_n dX10_switchCut_35 rfl ?_
    obtain ⟨g4, k⟩ := k
    refine w_bastore dX10_switchCut_36 g2 g4 rfl ?_
    refine w_iload_n dX10_switchCut_37 rfl ?_
    exact w_ireturn dX10_switchCut_38 rfl k
  · replace k := k.2 c
    refine w_iconst dX10_switchCut_9 i1_1 ?_
    refine w_goto (pc' := 14) dX10_switchCut_10 rfl rfl ?_
    refine w_istore_n (lo' := [some (.ref v0), some (.int v1), some (.int v2), some (.int (1 : Int32))]) dX10_switchCut_14 (ltQ rfl) rfl ?_
    refine w_aload_n dX10_switchCut_15 rfl ?_
    obtain ⟨g5, k⟩ := k
    refine w_getR dX10_switchCut_16 f_10_17 t_10_4 g5 ?_
    refine w_iload_n dX10_switchCut_19 rfl ?_
    refine w_iconst dX10_switchCut_20 i1_5 ?_
    refine w_imul dX10_switchCut_21 ?_
    refine w_iload_n dX10_switchCut_22 rfl ?_
    refine w_iadd dX10_switchCut_23 ?_
    refine w_iload_n dX10_switchCut_24 rfl ?_
    obtain ⟨g6, k⟩ := k
    obtain ⟨g7, k⟩ := k
    refine w_bastore dX10_switchCut_25 g6 g7 rfl ?_
    refine w_aload_n dX10_switchCut_26 rfl ?_
    refine w_getR dX10_switchCut_27 f_10_17 t_10_4 g5 ?_
    refine w_iload_n dX10_switchCut_30 rfl ?_
    refine w_iconst dX10_switchCut_31 i1_5 ?_
    refine w_imul dX10_switchCut_32 ?_
    refine w_iload_n dX10_switchCut_33 rfl ?_
    refine w_iadd dX10_switchCut_34 ?_
    refine w_iload_n dX10_switchCut_35 rfl ?_
    obtain ⟨g8, k⟩ := k
    refine w_bastore dX10_switchCut_36 g6 g8 rfl ?_
    refine w_iload_n dX10_switchCut_37 rfl ?_
    exact w_ireturn dX10_switchCut_38 rfl k
theorem bX11_init_0 {d : Nat} {h : HP} {Q : Out → HP → Prop} {v0 : Nat} {u1 : Option Value} (k : (1 < v0) ∧ ((hK (nw h 25 5 5) v0 = 11) ∧ ((1 < (hN (sR (nw h 25 5 5) 1100 v0 (hN h)))) ∧ (WP d mX10_init 0 [some (.ref (hN (sR (nw h 25 5 5) 1100 v0 (hN h)))), none] [] (nw (sR (nw h 25 5 5) 1100 v0 (hN h)) 10 0 7) (KK d mX11_init mX10_init 17 [some (.ref v0), u1] [.ref (hN (sR (nw h 25 5 5) 1100 v0 (hN h))), .ref v0] Q))))) : WP (d + 1) mX11_init 0 [some (.ref v0), u1] [] h Q := by
  refine w_aload_n dX11_init_0 rfl ?_
  obtain ⟨g1, k⟩ := k
  refine w_obj dX11_init_1 c_11_1 (Nat.le_of_ble_eq_true rfl) rfl g1 ?_
  refine w_aload_n dX11_init_4 rfl ?_
  refine w_iconst dX11_init_5 i1_5 ?_
  refine w_anew (m := 5) dX11_init_6 (by decide) (by decide) (by decide) ar_11_9 ?_
  obtain ⟨g2, k⟩ := k
  refine w_putR dX11_init_9 f_11_11 t_11_0 (pf_in rfl rfl) g2 ?_
  refine w_aload_n dX11_init_12 rfl ?_
  refine w_new dX11_init_13 nr_11_15 ?_
  refine w_dup dX11_init_16 rfl ?_
  obtain ⟨g3, k⟩ := k
  exact w_spec (as1 := [.ref (hN (sR (nw h 25 5 5) 1100 v0 (hN h)))]) (as2 := [.ref (hN (sR (nw h 25 5 5) 1100 v0 (hN h)))]) (rest := [.ref (hN (sR (nw h 25 5 5) 1100 v0 (hN h))), .ref v0]) (lo2 := [some (.ref (hN (sR (nw h 25 5 5) 1100 v0 (hN h)))), none]) dX11_init_17 c_11_17 rfl rfl rfl (Nat.le_of_ble_eq_true rfl) (Nat.le_of_ble_eq_true rfl) rfl (Nat.le_of_ble_eq_true rfl) rfl rfl g3 k
theorem bX11_init_20 {d : Nat} {h : HP} {Q : Out → HP → Prop} {v0 : Nat} {u1 : Option Value} {s0 : Nat} {s1 : Nat} (k : (hK h s1 = 11) ∧ ((hK (nw (sR h 1101 s1 s0) 6 0 4) v0 = 11) ∧ ((1 < (hN h)) ∧ (WP d mX6_init 0 [some (.ref (hN h)), some (.ref (hR (nw (sR h 1101 s1 s0) 6 0 4) 1100 v0)), some (.ref (hR (nw (sR h 1101 s1 s0) 6 0 4) 1101 v0))] [] (nw (sR h 1101 s1 s0) 6 0 4) (KK d mX11_init mX6_init 36 [some (.ref v0), u1] [.ref (hN h), .ref v0] Q))))) : WP (d + 1) mX11_init 20 [some (.ref v0), u1] [.ref s0, .ref s1] h Q := by
  obtain ⟨g1, k⟩ := k
  refine w_putR dX11_init_20 f_11_18 t_11_1 (pf_in rfl rfl) g1 ?_
  refine w_aload_n dX11_init_23 rfl ?_
  refine w_new dX11_init_24 nr_11_22 ?_
  refine w_dup dX11_init_27 rfl ?_
  refine w_aload_n dX11_init_28 rfl ?_
  obtain ⟨g2, k⟩ := k
  refine w_getR dX11_init_29 f_11_11 t_11_0 g2 ?_
  refine w_aload_n dX11_init_32 rfl ?_
  refine w_getR dX11_init_33 f_11_18 t_11_1 g2 ?_
  obtain ⟨g3, k⟩ := k
  exact w_spec (as1 := [.ref (hR (nw (sR h 1101 s1 s0) 6 0 4) 1101 v0), .ref (hR (nw (sR h 1101 s1 s0) 6 0 4) 1100 v0), .ref (hN h)]) (as2 := [.ref (hN h), .ref (hR (nw (sR h 1101 s1 s0) 6 0 4) 1100 v0), .ref (hR (nw (sR h 1101 s1 s0) 6 0 4) 1101 v0)]) (rest := [.ref (hN h), .ref v0]) (lo2 := [some (.ref (hN h)), some (.ref (hR (nw (sR h 1101 s1 s0) 6 0 4) 1100 v0)), some (.ref (hR (nw (sR h 1101 s1 s0) 6 0 4) 1101 v0))]) dX11_init_36 c_11_24 rfl rfl rfl (Nat.le_of_ble_eq_true rfl) (Nat.le_of_ble_eq_true rfl) rfl (Nat.le_of_ble_eq_true rfl) rfl rfl g3 k
theorem bX11_init_39 {d : Nat} {h : HP} {Q : Out → HP → Prop} {v0 : Nat} {u1 : Option Value} {s0 : Nat} {s1 : Nat} (k : (hK h s1 = 11) ∧ ((hK (nw (sR h 1102 s1 s0) 1 0 2) v0 = 11) ∧ ((1 < (hN h)) ∧ (WP d mX1_init 0 [some (.ref (hN h)), some (.ref (hR (nw (sR h 1102 s1 s0) 1 0 2) 1100 v0)), some (.ref (hR (nw (sR h 1102 s1 s0) 1 0 2) 1101 v0))] [] (nw (sR h 1102 s1 s0) 1 0 2) (KK d mX11_init mX1_init 55 [some (.ref v0), u1] [.ref (hN h), .ref v0] Q))))) : WP (d + 1) mX11_init 39 [some (.ref v0), u1] [.ref s0, .ref s1] h Q := by
  obtain ⟨g1, k⟩ := k
  refine w_putR dX11_init_39 f_11_27 t_11_2 (pf_in rfl rfl) g1 ?_
  refine w_aload_n dX11_init_42 rfl ?_
  refine w_new dX11_init_43 nr_11_31 ?_
  refine w_dup dX11_init_46 rfl ?_
  refine w_aload_n dX11_init_47 rfl ?_
  obtain ⟨g2, k⟩ := k
  refine w_getR dX11_init_48 f_11_11 t_11_0 g2 ?_
  refine w_aload_n dX11_init_51 rfl ?_
  refine w_getR dX11_init_52 f_11_18 t_11_1 g2 ?_
  obtain ⟨g3, k⟩ := k
  exact w_spec (as1 := [.ref (hR (nw (sR h 1102 s1 s0) 1 0 2) 1101 v0), .ref (hR (nw (sR h 1102 s1 s0) 1 0 2) 1100 v0), .ref (hN h)]) (as2 := [.ref (hN h), .ref (hR (nw (sR h 1102 s1 s0) 1 0 2) 1100 v0), .ref (hR (nw (sR h 1102 s1 s0) 1 0 2) 1101 v0)]) (rest := [.ref (hN h), .ref v0]) (lo2 := [some (.ref (hN h)), some (.ref (hR (nw (sR h 1102 s1 s0) 1 0 2) 1100 v0)), some (.ref (hR (nw (sR h 1102 s1 s0) 1 0 2) 1101 v0))]) dX11_init_55 c_11_33 rfl rfl rfl (Nat.le_of_ble_eq_true rfl) (Nat.le_of_ble_eq_true rfl) rfl (Nat.le_of_ble_eq_true rfl) rfl rfl g3 k
theorem bX11_init_58 {d : Nat} {h : HP} {Q : Out → HP → Prop} {v0 : Nat} {u1 : Option Value} {s0 : Nat} {s1 : Nat} (k : (hK h s1 = 11) ∧ ((1 < (hN h)) ∧ (WP d mX4_init 0 [some (.ref (hN h)), none] [] (nw (sR h 1103 s1 s0) 4 0 5) (KK d mX11_init mX4_init 66 [some (.ref v0), u1] [.ref (hN h), .ref v0] Q)))) : WP (d + 1) mX11_init 58 [some (.ref v0), u1] [.ref s0, .ref s1] h Q := by
  obtain ⟨g1, k⟩ := k
  refine w_putR dX11_init_58 f_11_34 t_11_3 (pf_in rfl rfl) g1 ?_
  refine w_aload_n dX11_init_61 rfl ?_
  refine w_new dX11_init_62 nr_11_38 ?_
  refine w_dup dX11_init_65 rfl ?_
  obtain ⟨g2, k⟩ := k
  exact w_spec (as1 := [.ref (hN h)]) (as2 := [.ref (hN h)]) (rest := [.ref (hN h), .ref v0]) (lo2 := [some (.ref (hN h)), none]) dX11_init_66 c_11_40 rfl rfl rfl (Nat.le_of_ble_eq_true rfl) (Nat.le_of_ble_eq_true rfl) rfl (Nat.le_of_ble_eq_true rfl) rfl rfl g2 k
theorem bX11_init_69 {d : Nat} {h : HP} {Q : Out → HP → Prop} {v0 : Nat} {u1 : Option Value} {s0 : Nat} {s1 : Nat} (k : (hK h s1 = 11) ∧ (WP d mX11_init 74 [some (.ref v0), some (.int (0 : Int32))] [] (sR h 1104 s1 s0) Q)) : WP d mX11_init 69 [some (.ref v0), u1] [.ref s0, .ref s1] h Q := by
  obtain ⟨g1, k⟩ := k
  refine w_putR dX11_init_69 f_11_41 t_11_4 (pf_in rfl rfl) g1 ?_
  refine w_iconst dX11_init_72 i1_0 ?_
  refine w_istore_n (lo' := [some (.ref v0), some (.int (0 : Int32))]) dX11_init_73 (ltQ rfl) rfl ?_
  exact k
theorem bX11_init_74 {d : Nat} {h : HP} {Q : Out → HP → Prop} {v0 : Nat} {v1 : Int32} (k : (((5 : Int32) ≤ v1) → (1 < v0) ∧ ((hK h v0 = 11) ∧ (WP d mX11_renew 0 [some (.ref v0), some (.int (3 : Int32)), none] [] h (KK d mX11_init mX11_renew 101 [some (.ref v0), some (.int v1)] [] Q)))) ∧ ((¬ ((5 : Int32) ≤ v1)) → (hK h v0 = 11) ∧ ((1 < (hN h)) ∧ (WP d mX8_init 0 [some (.ref (hN h)), some (.int v1), none] [] (nw h 8 0 14) (KK d mX11_init mX8_init 89 [some (.ref v0), some (.int v1)] [.ref (hN h), .int v1, .ref (hR h 1100 v0)] Q))))) : WP (d + 1) mX11_init 74 [some (.ref v0), some (.int v1)] [] h Q := by
  refine w_iload_n dX11_init_74 rfl ?_
  refine w_iconst dX11_init_75 i1_5 ?_
  refine w_ic_ge (pc' := 99) dX11_init_76 rfl rfl ⟨fun c => ?_, fun c => ?_⟩
  · replace k := k.1 c
    refine w_aload_n dX11_init_99 rfl ?_
    refine w_iconst dX11_init_100 i1_3 ?_
    obtain ⟨g1, k⟩ := k
    obtain ⟨g2, k⟩ := k
    exact w_virt (as1 := [.int (3 : Int32), .ref v0]) (as2 := [.ref v0, .int (3 : Int32)]) (rest := []) (lo2 := [some (.ref v0), some (.int (3 : Int32)), none]) dX11_init_101 c_11_48 rfl rfl rfl (Nat.le_of_ble_eq_true rfl) (Nat.le_of_ble_eq_true rfl) rfl (Nat.le_of_ble_eq_true rfl) rfl rfl g1 g2 k
  · replace k := k.2 c
    refine w_aload_n dX11_init_79 rfl ?_
    obtain ⟨g3, k⟩ := k
    refine w_getR dX11_init_80 f_11_11 t_11_0 g3 ?_
    refine w_iload_n dX11_init_83 rfl ?_
    refine w_new dX11_init_84 nr_11_9 ?_
    refine w_dup dX11_init_87 rfl ?_
    refine w_iload_n dX11_init_88 rfl ?_
    obtain ⟨g4, k⟩ := k
    exact w_spec (as1 := [.int v1, .ref (hN h)]) (as2 := [.ref (hN h), .int v1]) (rest := [.ref (hN h), .int v1, .ref (hR h 1100 v0)]) (lo2 := [some (.ref (hN h)), some (.int v1), none]) dX11_init_89 c_11_45 rfl rfl rfl (Nat.le_of_ble_eq_true rfl) (Nat.le_of_ble_eq_true rfl) rfl (Nat.le_of_ble_eq_true rfl) rfl rfl g4 k
theorem bX11_init_92 {d : Nat} {h : HP} {Q : Out → HP → Prop} {v0 : Nat} {v1 : Int32} {s0 : Nat} {s1 : Int32} {s2 : Nat} (k : (25 ≤ hK h s2 ∧ hK h s2 ≤ 29) ∧ ((inA h s2 s1 = true) ∧ ((1 < s0 ∧ hK h s0 = acl (hK h s2 - 25)) ∧ (WP d mX11_init 74 [some (.ref v0), some (.int (v1 + (1 : Int32)))] [] (sAR h s2 (s1).toNatClampNeg s0) Q)))) : WP d mX11_init 92 [some (.ref v0), some (.int v1)] [.ref s0, .int s1, .ref s2] h Q := by
  obtain ⟨g1, k⟩ := k
  obtain ⟨g2, k⟩ := k
  obtain ⟨g3, k⟩ := k
  refine w_aastore dX11_init_92 rfl g2 g1.1 g1.2 g3.1 g3.2 ?_
  refine w_iinc (lo' := [some (.ref v0), some (.int (v1 + (1 : Int32)))]) dX11_init_93 rfl i1_1 rfl ?_
  refine w_goto (pc' := 74) dX11_init_96 rfl rfl ?_
  exact k
theorem bX11_init_104 {d : Nat} {h : HP} {Q : Out → HP → Prop} {v0 : Nat} {v1 : Int32} (k : Q (.inl none) h) : WP d mX11_init 104 [some (.ref v0), some (.int v1)] [] h Q := by
  exact w_return dX11_init_104 rfl k
theorem bX11_begin_0 {d : Nat} {h : HP} {Q : Out → HP → Prop} {v0 : Nat} {v1 : Int32} {u2 : Option Value} (k : ((v1 = (3 : Int32)) → (hK h v0 = 11) ∧ ((hK h (hR h 1101 v0) = 10) ∧ ((1 < v0) ∧ (WP d mX11_renew 0 [some (.ref v0), some (.int v1), none] [] h (KK d mX11_begin mX11_renew 30 [some (.ref v0), some (.int v1), some (.int (hI h 1000 (hR h 1101 v0)))] [] Q))))) ∧ ((¬ (v1 = (3 : Int32))) → ((v1 = (5 : Int32)) → (hK h v0 = 11) ∧ ((hK h (hR h 1101 v0) = 10) ∧ ((1 < v0) ∧ (WP d mX11_renew 0 [some (.ref v0), some (.int v1), none] [] h (KK d mX11_begin mX11_renew 30 [some (.ref v0), some (.int v1), some (.int (hI h 1000 (hR h 1101 v0)))] [] Q))))) ∧ ((¬ (v1 = (5 : Int32))) → Q (.inr 1) (thr h)))) : WP (d + 1) mX11_begin 0 [some (.ref v0), some (.int v1), u2] [] h Q := by
  refine w_iload_n dX11_begin_0 rfl ?_
  refine w_iconst dX11_begin_1 i1_3 ?_
  refine w_ic_eq (pc' := 20) dX11_begin_2 rfl rfl ⟨fun c => ?_, fun c => ?_⟩
  · replace k := k.1 c
    refine w_aload_n dX11_begin_20 rfl ?_
    obtain ⟨g1, k⟩ := k
    refine w_getR dX11_begin_21 f_11_18 t_11_1 g1 ?_
    obtain ⟨g2, k⟩ := k
    refine w_getI dX11_begin_24 f_11_58 t_10_0 g2 ?_
    refine w_istore_n (lo' := [some (.ref v0), some (.int v1), some (.int (hI h 1000 (hR h 1101 v0)))]) dX11_begin_27 (ltQ rfl) rfl ?_
    refine w_aload_n dX11_begin_28 rfl ?_
    refine w_iload_n dX11_begin_29 rfl ?_
    obtain ⟨g3, k⟩ := k
    exact w_virt (as1 := [.int v1, .ref v0]) (as2 := [.ref v0, .int v1]) (rest := []) (lo2 := [some (.ref v0), some (.int v1), none]) dX11_begin_30 c_11_48 rfl rfl rfl (Nat.le_of_ble_eq_true rfl) (Nat.le_of_ble_eq_true rfl) rfl (Nat.le_of_ble_eq_true rfl) rfl rfl g3 g1 k
  · replace k := k.2 c
    refine w_iload_n dX11_begin_5 rfl ?_
    refine w_iconst dX11_begin_6 i1_5 ?_
    refine w_ic_eq (pc' := 20) dX11_begin_7 rfl rfl ⟨fun c => ?_, fun c => ?_⟩
    · replace k := k.1 c
      refine w_aload_n dX11_begin_20 rfl ?_
      obtain ⟨g4, k⟩ := k
      refine w_getR dX11_begin_21 f_11_18 t_11_1 g4 ?_
      obtain ⟨g5, k⟩ := k
      refine w_getI dX11_begin_24 f_11_58 t_10_0 g5 ?_
      refine w_istore_n (lo' := [some (.ref v0), some (.int v1), some (.int (hI h 1000 (hR h 1101 v0)))]) dX11_begin_27 (ltQ rfl) rfl ?_
      refine w_aload_n dX11_begin_28 rfl ?_
      refine w_iload_n dX11_begin_29 rfl ?_
      obtain ⟨g6, k⟩ := k
      exact w_virt (as1 := [.int v1, .ref v0]) (as2 := [.ref v0, .int v1]) (rest := []) (lo2 := [some (.ref v0), some (.int v1), none]) dX11_begin_30 c_11_48 rfl rfl rfl (Nat.le_of_ble_eq_true rfl) (Nat.le_of_ble_eq_true rfl) rfl (Nat.le_of_ble_eq_true rfl) rfl rfl g6 g4 k
    · replace k := k.2 c
      exact w_thr dX11_begin_10 nx_11_51 tw_X11_begin_10 (Nat.le_of_ble_eq_true rfl) rfl rfl k
theorem bX11_begin_33 {d : Nat} {h : HP} {Q : Out → HP → Prop} {v0 : Nat} {v1 : Int32} {v2 : Int32} (k : Q (.inl (some (.int v2))) h) : WP d mX11_begin 33 [some (.ref v0), some (.int v1), some (.int v2)] [] h Q := by
  refine w_iload_n dX11_begin_33 rfl ?_
  exact w_ireturn dX11_begin_34 rfl k
theorem bX11_toggle_0 {d : Nat} {h : HP} {Q : Out → HP → Prop} {v0 : Nat} {v1 : Int32} {u2 : Option Value} (k : (1 < v0) ∧ ((hK h v0 = 11) ∧ (WP d mX11_needMachine 0 [some (.ref v0), some (.int v1)] [] h (KK d mX11_toggle mX11_needMachine 2 [some (.ref v0), some (.int v1), u2] [] Q)))) : WP (d + 1) mX11_toggle 0 [some (.ref v0), some (.int v1), u2] [] h Q := by
  refine w_aload_n dX11_toggle_0 rfl ?_
  refine w_iload_n dX11_toggle_1 rfl ?_
  obtain ⟨g1, k⟩ := k
  obtain ⟨g2, k⟩ := k
  exact w_virt (as1 := [.int v1, .ref v0]) (as2 := [.ref v0, .int v1]) (rest := []) (lo2 := [some (.ref v0), some (.int v1)]) dX11_toggle_2 c_11_62 rfl rfl rfl (Nat.le_of_ble_eq_true rfl) (Nat.le_of_ble_eq_true rfl) rfl (Nat.le_of_ble_eq_true rfl) rfl rfl g1 g2 k
theorem bX11_toggle_5 {d : Nat} {h : HP} {Q : Out → HP → Prop} {v0 : Nat} {v1 : Int32} {u2 : Option Value} {s0 : Nat} (k : (hK h v0 = 11) ∧ ((1 < (hR h 1104 v0)) ∧ ((hK h (hR h 1104 v0) = 4) ∧ (WP d mX4_goOn 0 [some (.ref (hR h 1104 v0))] [] h (KK d mX11_toggle mX4_goOn 10 [some (.ref v0), some (.int v1), some (.ref s0)] [] Q))))) : WP (d + 1) mX11_toggle 5 [some (.ref v0), some (.int v1), u2] [.ref s0] h Q := by
  refine w_astore_n (lo' := [some (.ref v0), some (.int v1), some (.ref s0)]) dX11_toggle_5 (ltQ rfl) rfl ?_
  refine w_aload_n dX11_toggle_6 rfl ?_
  obtain ⟨g1, k⟩ := k
  refine w_getR dX11_toggle_7 f_11_41 t_11_4 g1 ?_
  obtain ⟨g2, k⟩ := k
  obtain ⟨g3, k⟩ := k
  exact w_virt (as1 := [.ref (hR h 1104 v0)]) (as2 := [.ref (hR h 1104 v0)]) (rest := []) (lo2 := [some (.ref (hR h 1104 v0))]) dX11_toggle_10 c_11_66 rfl rfl rfl (Nat.le_of_ble_eq_true rfl) (Nat.le_of_ble_eq_true rfl) rfl (Nat.le_of_ble_eq_true rfl) rfl rfl g2 g3 k
theorem bX11_toggle_13 {d : Nat} {h : HP} {Q : Out → HP → Prop} {v0 : Nat} {v1 : Int32} {v2 : Nat} (k : (hK h v2 = 8) ∧ ((((hI h 804 v2) = 0) → (hK h v0 = 11) ∧ ((hK h (hR h 1102 v0) = 6) ∧ ((1 < v2) ∧ (WP d mX8_rise 0 [some (.ref v2), some (.float (hF h 602 (hR h 1102 v0)))] [] h (KK d mX11_toggle mX8_rise 35 [some (.ref v0), some (.int v1), some (.ref v2)] [] Q))))) ∧ ((¬ ((hI h 804 v2) = 0)) → (1 < v2) ∧ (WP d mX8_crash 0 [some (.ref v2), none] [] h (KK d mX11_toggle mX8_crash 21 [some (.ref v0), some (.int v1), some (.ref v2)] [] Q))))) : WP (d + 1) mX11_toggle 13 [some (.ref v0), some (.int v1), some (.ref v2)] [] h Q := by
  refine w_aload_n dX11_toggle_13 rfl ?_
  obtain ⟨g1, k⟩ := k
  refine w_getZ dX11_toggle_14 f_11_69 t_8_4 g1 ?_
  refine w_if_eq (pc' := 27) dX11_toggle_17 rfl rfl ⟨fun c => ?_, fun c => ?_⟩
  · replace k := k.1 c
    refine w_aload_n dX11_toggle_27 rfl ?_
    refine w_aload_n dX11_toggle_28 rfl ?_
    obtain ⟨g2, k⟩ := k
    refine w_getR dX11_toggle_29 f_11_27 t_11_2 g2 ?_
    obtain ⟨g3, k⟩ := k
    refine w_getF dX11_toggle_32 f_11_76 t_6_2 g3 ?_
    obtain ⟨g4, k⟩ := k
    exact w_virt (as1 := [.float (hF h 602 (hR h 1102 v0)), .ref v2]) (as2 := [.ref v2, .float (hF h 602 (hR h 1102 v0))]) (rest := []) (lo2 := [some (.ref v2), some (.float (hF h 602 (hR h 1102 v0)))]) dX11_toggle_35 c_11_80 rfl rfl rfl (Nat.le_of_ble_eq_true rfl) (Nat.le_of_ble_eq_true rfl) rfl (Nat.le_of_ble_eq_true rfl) rfl rfl g4 g1 k
  · replace k := k.2 c
    refine w_aload_n dX11_toggle_20 rfl ?_
    obtain ⟨g5, k⟩ := k
    exact w_virt (as1 := [.ref v2]) (as2 := [.ref v2]) (rest := []) (lo2 := [some (.ref v2), none]) dX11_toggle_21 c_11_73 rfl rfl rfl (Nat.le_of_ble_eq_true rfl) (Nat.le_of_ble_eq_true rfl) rfl (Nat.le_of_ble_eq_true rfl) rfl rfl g5 g1 k
theorem bX11_toggle_24 {d : Nat} {h : HP} {Q : Out → HP → Prop} {v0 : Nat} {v1 : Int32} {v2 : Nat} (k : WP d mX11_toggle 38 [some (.ref v0), some (.int v1), some (.ref v2)] [] h Q) : WP d mX11_toggle 24 [some (.ref v0), some (.int v1), some (.ref v2)] [] h Q := by
  refine w_goto (pc' := 38) dX11_toggle_24 rfl rfl ?_
  exact k
theorem bX11_toggle_38 {d : Nat} {h : HP} {Q : Out → HP → Prop} {v0 : Nat} {v1 : Int32} {v2 : Nat} (k : (hK h v2 = 8) ∧ ((isZ (hI h 804 v2) = true) ∧ (Q (.inl (some (.int (hI h 804 v2)))) h))) : WP d mX11_toggle 38 [some (.ref v0), some (.int v1), some (.ref v2)] [] h Q := by
  refine w_aload_n dX11_toggle_38 rfl ?_
  obtain ⟨g1, k⟩ := k
  refine w_getZ dX11_toggle_39 f_11_69 t_8_4 g1 ?_
  obtain ⟨g2, k⟩ := k
  exact w_ireturn dX11_toggle_42 g2 k
