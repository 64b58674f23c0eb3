/-! ===== segments: what the program does from a place to the next ===== -/
theorem bL_law_0 {d : Nat} {h : HP} {Q : Out → HP → Prop} {v0 : Nat} {u1 : Option Value} {u2 : Option Value} {u3 : Option Value} {u4 : Option Value} {u5 : Option Value} {u6 : Option Value} {u7 : Option Value} (k : (1 < (hN h)) ∧ (WP d mX11_init 0 [some (.ref (hN h)), none] [] (nw h 11 0 6) (KK d mL_law mX11_init 4 [some (.ref v0), u1, u2, u3, u4, u5, u6, u7] [.ref (hN h)] Q))) : WP (d + 1) mL_law 0 [some (.ref v0), u1, u2, u3, u4, u5, u6, u7] [] h Q := by
  refine w_new dL_law_0 nr_13_8 ?_
  refine w_dup dL_law_3 rfl ?_
  obtain ⟨g1, k⟩ := k
  exact w_spec (as1 := [.ref (hN h)]) (as2 := [.ref (hN h)]) (rest := [.ref (hN h)]) (lo2 := [some (.ref (hN h)), none]) dL_law_4 c_13_87 rfl rfl rfl (Nat.le_of_ble_eq_true rfl) (Nat.le_of_ble_eq_true rfl) rfl (Nat.le_of_ble_eq_true rfl) rfl rfl g1 k
theorem bL_law_7 {d : Nat} {h : HP} {Q : Out → HP → Prop} {v0 : Nat} {u1 : Option Value} {u2 : Option Value} {u3 : Option Value} {u4 : Option Value} {u5 : Option Value} {u6 : Option Value} {u7 : Option Value} {s0 : Nat} (k : (1 < (hN h)) ∧ (WP d mX12_init 0 [some (.ref (hN h))] [] (nw h 12 0 51) (KK d mL_law mX12_init 12 [some (.ref v0), some (.ref s0), u2, u3, u4, u5, u6, u7] [.ref (hN h)] Q))) : WP (d + 1) mL_law 7 [some (.ref v0), u1, u2, u3, u4, u5, u6, u7] [.ref s0] h Q := by
  refine w_astore_n (lo' := [some (.ref v0), some (.ref s0), u2, u3, u4, u5, u6, u7]) dL_law_7 (ltQ rfl) rfl ?_
  refine w_new dL_law_8 nr_13_88 ?_
  refine w_dup dL_law_11 rfl ?_
  obtain ⟨g1, k⟩ := k
  exact w_spec (as1 := [.ref (hN h)]) (as2 := [.ref (hN h)]) (rest := [.ref (hN h)]) (lo2 := [some (.ref (hN h))]) dL_law_12 c_13_90 rfl rfl rfl (Nat.le_of_ble_eq_true rfl) (Nat.le_of_ble_eq_true rfl) rfl (Nat.le_of_ble_eq_true rfl) rfl rfl g1 k
theorem bL_law_15 {d : Nat} {h : HP} {Q : Out → HP → Prop} {v0 : Nat} {v1 : Nat} {u2 : Option Value} {u3 : Option Value} {u4 : Option Value} {u5 : Option Value} {u6 : Option Value} {u7 : Option Value} {s0 : Nat} (k : WP d mL_law 28 [some (.ref v0), some (.ref v1), some (.ref s0), some (.ref (hN h)), some (.ref (hN (nw h 23 1 1))), some (.int (0 : Int32)), u6, u7] [] (nw (nw h 23 1 1) 24 1 1) Q) : WP d mL_law 15 [some (.ref v0), some (.ref v1), u2, u3, u4, u5, u6, u7] [.ref s0] h Q := by
  refine w_astore_n (lo' := [some (.ref v0), some (.ref v1), some (.ref s0), u3, u4, u5, u6, u7]) dL_law_15 (ltQ rfl) rfl ?_
  refine w_iconst dL_law_16 i1_1 ?_
  refine w_nar_long (m := 1) dL_law_17 (by decide) (by decide) (by decide) ?_
  refine w_astore_n (lo' := [some (.ref v0), some (.ref v1), some (.ref s0), some (.ref (hN h)), u4, u5, u6, u7]) dL_law_19 (ltQ rfl) rfl ?_
  refine w_iconst dL_law_20 i1_1 ?_
  refine w_nar_double (m := 1) dL_law_21 (by decide) (by decide) (by decide) ?_
  refine w_astore (lo' := [some (.ref v0), some (.ref v1), some (.ref s0), some (.ref (hN h)), some (.ref (hN (nw h 23 1 1))), u5, u6, u7]) dL_law_23 (ltQ rfl) rfl ?_
  refine w_iconst dL_law_25 i1_0 ?_
  refine w_istore (lo' := [some (.ref v0), some (.ref v1), some (.ref s0), some (.ref (hN h)), some (.ref (hN (nw h 23 1 1))), some (.int (0 : Int32)), u6, u7]) dL_law_26 (ltQ rfl) rfl ?_
  exact k
theorem bL_law_28 {d : Nat} {h : HP} {Q : Out → HP → Prop} {v0 : Nat} {v1 : Nat} {v2 : Nat} {v3 : Nat} {v4 : Nat} {v5 : Int32} {u6 : Option Value} {u7 : Option Value} (k : (19 ≤ hK h v0 ∧ hK h v0 ≤ 29) ∧ (((((Int32.ofNat (hL h v0)) - (5 : Int32)) < v5) → Q (.inl (some (.int (1 : Int32)))) h) ∧ ((¬ (((Int32.ofNat (hL h v0)) - (5 : Int32)) < v5)) → (hK h v0 = 19) ∧ ((inA h v0 v5 = true) ∧ (((((hAI h v0 (v5).toNatClampNeg) &&& (31 : Int32)) = (0 : Int32)) → (inA h v0 (v5 + (1 : Int32)) = true) ∧ (WP d mL_begin 0 [some (.ref v1), some (.int (hAI h v0 ((v5 + (1 : Int32))).toNatClampNeg)), some (.ref v3), none] [] h (KK d mL_law mL_begin 176 [some (.ref v0), some (.ref v1), some (.ref v2), some (.ref v3), some (.ref v4), some (.int v5), u6, u7] [] Q))) ∧ ((((hAI h v0 (v5).toNatClampNeg) &&& (31 : Int32)) = (1 : Int32)) → (inA h v0 (v5 + (1 : Int32)) = true) ∧ (WP d mL_toggle 0 [some (.ref v1), some (.int (hAI h v0 ((v5 + (1 : Int32))).toNatClampNeg)), some (.ref v3), none] [] h (KK d mL_law mL_toggle 232 [some (.ref v0), some (.ref v1), some (.ref v2), some (.ref v3), some (.ref v4), some (.int v5), u6, u7] [] Q))) ∧ ((((hAI h v0 (v5).toNatClampNeg) &&& (31 : Int32)) = (2 : Int32)) → (inA h v0 (v5 + (1 : Int32)) = true) ∧ ((inA h v0 (v5 + (2 : Int32)) = true) ∧ (WP d mL_cut 0 [some (.ref v1), some (.int (hAI h v0 ((v5 + (1 : Int32))).toNatClampNeg)), some (.int (hAI h v0 ((v5 + (2 : Int32))).toNatClampNeg)), some (.ref v3), none] [] h (KK d mL_law mL_cut 301 [some (.ref v0), some (.ref v1), some (.ref v2), some (.ref v3), some (.ref v4), some (.int v5), u6, u7] [] Q)))) ∧ ((((hAI h v0 (v5).toNatClampNeg) &&& (31 : Int32)) = (3 : Int32)) → (inA h v0 (v5 + (1 : Int32)) = true) ∧ ((inA h v0 (v5 + (2 : Int32)) = true) ∧ (WP d mL_rate 0 [some (.ref v1), some (.int (hAI h v0 ((v5 + (1 : Int32))).toNatClampNeg)), some (.int (hAI h v0 ((v5 + (2 : Int32))).toNatClampNeg)), some (.ref v4), none] [] h (KK d mL_law mL_rate 377 [some (.ref v0), some (.ref v1), some (.ref v2), some (.ref v3), some (.ref v4), some (.int v5), u6, u7] [] Q)))) ∧ ((((hAI h v0 (v5).toNatClampNeg) &&& (31 : Int32)) = (4 : Int32)) → (inA h v0 (v5 + (1 : Int32)) = true) ∧ ((inA h v0 (v5 + (2 : Int32)) = true) ∧ (WP d mL_spans 0 [some (.ref v1), some (.int (hAI h v0 ((v5 + (1 : Int32))).toNatClampNeg)), some (.int (hAI h v0 ((v5 + (2 : Int32))).toNatClampNeg)), none] [] h (KK d mL_law mL_spans 465 [some (.ref v0), some (.ref v1), some (.ref v2), some (.ref v3), some (.ref v4), some (.int v5), u6, u7] [] Q)))) ∧ ((((hAI h v0 (v5).toNatClampNeg) &&& (31 : Int32)) = (5 : Int32)) → (inA h v0 (v5 + (1 : Int32)) = true) ∧ (WP d mL_pass 0 [some (.ref v1), some (.int (hAI h v0 ((v5 + (1 : Int32))).toNatClampNeg)), some (.ref v4), none] [] h (KK d mL_law mL_pass 509 [some (.ref v0), some (.ref v1), some (.ref v2), some (.ref v3), some (.ref v4), some (.int v5), u6, u7] [] Q))) ∧ ((((hAI h v0 (v5).toNatClampNeg) &&& (31 : Int32)) = (6 : Int32)) → (inA h v0 (v5 + (1 : Int32)) = true) ∧ (WP d mL_deliver 0 [some (.ref v1), some (.int (hAI h v0 ((v5 + (1 : Int32))).toNatClampNeg)), some (.ref v3), none] [] h (KK d mL_law mL_deliver 586 [some (.ref v0), some (.ref v1), some (.ref v2), some (.ref v3), some (.ref v4), some (.int v5), u6, u7] [] Q))) ∧ ((((hAI h v0 (v5).toNatClampNeg) &&& (31 : Int32)) = (7 : Int32)) → (inA h v0 (v5 + (1 : Int32)) = true) ∧ (WP d mL_lose 0 [some (.ref v1), some (.int (hAI h v0 ((v5 + (1 : Int32))).toNatClampNeg)), some (.ref v3), none] [] h (KK d mL_law mL_lose 642 [some (.ref v0), some (.ref v1), some (.ref v2), some (.ref v3), some (.ref v4), some (.int v5), u6, u7] [] Q))) ∧ ((((hAI h v0 (v5).toNatClampNeg) &&& (31 : Int32)) = (8 : Int32)) → (inA h v0 (v5 + (1 : Int32)) = true) ∧ (WP d mL_twice 0 [some (.ref v1), some (.int (hAI h v0 ((v5 + (1 : Int32))).toNatClampNeg)), some (.ref v3), none] [] h (KK d mL_law mL_twice 698 [some (.ref v0), some (.ref v1), some (.ref v2), some (.ref v3), some (.ref v4), some (.int v5), u6, u7] [] Q))) ∧ ((((hAI h v0 (v5).toNatClampNeg) &&& (31 : Int32)) = (9 : Int32)) → (inA h v0 (v5 + (1 : Int32)) = true) ∧ (WP d mL_stand 0 [some (.ref v1), some (.int (hAI h v0 ((v5 + (1 : Int32))).toNatClampNeg)), some (.ref v3), none] [] h (KK d mL_law mL_stand 754 [some (.ref v0), some (.ref v1), some (.ref v2), some (.ref v3), some (.ref v4), some (.int v5), u6, u7] [] Q))) ∧ ((((hAI h v0 (v5).toNatClampNeg) &&& (31 : Int32)) = (10 : Int32)) → (inA h v0 (v5 + (1 : Int32)) = true) ∧ (WP d mL_beat 0 [some (.ref v1), some (.int (hAI h v0 ((v5 + (1 : Int32))).toNatClampNeg)), some (.ref v3), none] [] h (KK d mL_law mL_beat 810 [some (.ref v0), some (.ref v1), some (.ref v2), some (.ref v3), some (.ref v4), some (.int v5), u6, u7] [] Q))) ∧ ((((hAI h v0 (v5).toNatClampNeg) &&& (31 : Int32)) = (11 : Int32)) → (inA h v0 (v5 + (1 : Int32)) = true) ∧ ((inA h v0 (v5 + (2 : Int32)) = true) ∧ ((inA h v0 (v5 + (3 : Int32)) = true) ∧ ((inA h v0 (v5 + (4 : Int32)) = true) ∧ (WP d mL_request 0 [some (.ref v1), some (.int (hAI h v0 ((v5 + (1 : Int32))).toNatClampNeg)), some (.int (hAI h v0 ((v5 + (2 : Int32))).toNatClampNeg)), some (.int (hAI h v0 ((v5 + (3 : Int32))).toNatClampNeg)), some (.int (hAI h v0 ((v5 + (4 : Int32))).toNatClampNeg)), some (.ref v3), none] [] h (KK d mL_law mL_request 884 [some (.ref v0), some (.ref v1), some (.ref v2), some (.ref v3), some (.ref v4), some (.int v5), u6, u7] [] Q)))))) ∧ ((((hAI h v0 (v5).toNatClampNeg) &&& (31 : Int32)) = (12 : Int32)) → (inA h v0 (v5 + (1 : Int32)) = true) ∧ (WP d mL_read 0 [some (.ref v1), some (.int (hAI h v0 ((v5 + (1 : Int32))).toNatClampNeg)), some (.ref v3), none] [] h (KK d mL_law mL_read 958 [some (.ref v0), some (.ref v1), some (.ref v2), some (.ref v3), some (.ref v4), some (.int v5), u6, u7] [] Q))) ∧ ((((hAI h v0 (v5).toNatClampNeg) &&& (31 : Int32)) = (13 : Int32)) → (inA h v0 (v5 + (1 : Int32)) = true) ∧ ((inA h v0 (v5 + (2 : Int32)) = true) ∧ ((inA h v0 (v5 + (3 : Int32)) = true) ∧ (WP d mL_propose 0 [some (.ref v1), some (.int (hAI h v0 ((v5 + (1 : Int32))).toNatClampNeg)), some (.int (hAI h v0 ((v5 + (2 : Int32))).toNatClampNeg)), some (.int (hAI h v0 ((v5 + (3 : Int32))).toNatClampNeg)), some (.ref v3), none] [] h (KK d mL_law mL_propose 1026 [some (.ref v0), some (.ref v1), some (.ref v2), some (.ref v3), some (.ref v4), some (.int v5), u6, u7] [] Q))))) ∧ ((((hAI h v0 (v5).toNatClampNeg) &&& (31 : Int32)) = (14 : Int32)) → (1 < v1) ∧ ((hK h v1 = 11) ∧ (WP d mX11_steps 0 [some (.ref v1)] [] h (KK d mL_law mX11_steps 1087 [some (.ref v0), some (.ref v1), some (.ref v2), some (.ref v3), some (.ref v4), some (.int v5), u6, u7] [] Q)))) ∧ ((((hAI h v0 (v5).toNatClampNeg) &&& (31 : Int32)) = (15 : Int32)) → (1 < v1) ∧ ((hK h v1 = 11) ∧ (WP d mX11_messages 0 [some (.ref v1)] [] h (KK d mL_law mX11_messages 1100 [some (.ref v0), some (.ref v1), some (.ref v2), some (.ref v3), some (.ref v4), some (.int v5), u6, u7] [] Q)))) ∧ ((((hAI h v0 (v5).toNatClampNeg) &&& (31 : Int32)) = (16 : Int32)) → (inA h v0 (v5 + (1 : Int32)) = true) ∧ ((inA h v0 (v5 + (2 : Int32)) = true) ∧ (WP d mL_message 0 [some (.ref v1), some (.int (hAI h v0 ((v5 + (1 : Int32))).toNatClampNeg)), some (.int (hAI h v0 ((v5 + (2 : Int32))).toNatClampNeg)), some (.ref v3), none] [] h (KK d mL_law mL_message 1126 [some (.ref v0), some (.ref v1), some (.ref v2), some (.ref v3), some (.ref v4), some (.int v5), u6, u7] [] Q)))) ∧ ((((hAI h v0 (v5).toNatClampNeg) &&& (31 : Int32)) = (17 : Int32)) → (inA h v0 (v5 + (1 : Int32)) = true) ∧ ((inA h v0 (v5 + (2 : Int32)) = true) ∧ (WP d mL_of 0 [some (.ref v1), some (.int (hAI h v0 ((v5 + (1 : Int32))).toNatClampNeg)), some (.int (hAI h v0 ((v5 + (2 : Int32))).toNatClampNeg)), some (.ref v3), none] [] h (KK d mL_law mL_of 1194 [some (.ref v0), some (.ref v1), some (.ref v2), some (.ref v3), some (.ref v4), some (.int v5), u6, u7] [] Q)))) ∧ ((((hAI h v0 (v5).toNatClampNeg) &&& (31 : Int32)) = (18 : Int32)) → (inA h v0 (v5 + (1 : Int32)) = true) ∧ ((inA h v0 (v5 + (2 : Int32)) = true) ∧ ((inA h v0 (v5 + (3 : Int32)) = true) ∧ (WP d mL_entry 0 [some (.ref v1), some (.int (hAI h v0 ((v5 + (1 : Int32))).toNatClampNeg)), some (.int (hAI h v0 ((v5 + (2 : Int32))).toNatClampNeg)), some (.int (hAI h v0 ((v5 + (3 : Int32))).toNatClampNeg)), some (.ref v3), none] [] h (KK d mL_law mL_entry 1268 [some (.ref v0), some (.ref v1), some (.ref v2), some (.ref v3), some (.ref v4), some (.int v5), u6, u7] [] Q))))) ∧ ((((hAI h v0 (v5).toNatClampNeg) &&& (31 : Int32)) = (19 : Int32)) → (inA h v0 (v5 + (1 : Int32)) = true) ∧ (WP d mL_clock 0 [some (.ref v1), some (.int (hAI h v0 ((v5 + (1 : Int32))).toNatClampNeg)), some (.ref v4), none] [] h (KK d mL_law mL_clock 1337 [some (.ref v0), some (.ref v1), some (.ref v2), some (.ref v3), some (.ref v4), some (.int v5), u6, u7] [] Q))) ∧ ((((hAI h v0 (v5).toNatClampNeg) &&& (31 : Int32)) = (20 : Int32)) → (inA h v0 (v5 + (1 : Int32)) = true) ∧ (WP d mL_lease 0 [some (.ref v1), some (.int (hAI h v0 ((v5 + (1 : Int32))).toNatClampNeg)), some (.ref v4), none] [] h (KK d mL_law mL_lease 1415 [some (.ref v0), some (.ref v1), some (.ref v2), some (.ref v3), some (.ref v4), some (.int v5), u6, u7] [] Q))) ∧ ((((hAI h v0 (v5).toNatClampNeg) &&& (31 : Int32)) = (21 : Int32)) → (1 < v1) ∧ ((hK h v1 = 11) ∧ (WP d mX11_leases 0 [some (.ref v1), none, none] [] h (KK d mL_law mX11_leases 1485 [some (.ref v0), some (.ref v1), some (.ref v2), some (.ref v3), some (.ref v4), some (.int v5), u6, u7] [] Q)))) ∧ ((((hAI h v0 (v5).toNatClampNeg) &&& (31 : Int32)) = (22 : Int32)) → (inA h v0 (v5 + (1 : Int32)) = true) ∧ ((inA h v0 (v5 + (2 : Int32)) = true) ∧ ((inA h v0 (v5 + (3 : Int32)) = true) ∧ (WP d mL_decision 0 [some (.ref v1), some (.int (hAI h v0 ((v5 + (1 : Int32))).toNatClampNeg)), some (.int (hAI h v0 ((v5 + (2 : Int32))).toNatClampNeg)), some (.int (hAI h v0 ((v5 + (3 : Int32))).toNatClampNeg)), some (.ref v3), none] [] h (KK d mL_law mL_decision 1517 [some (.ref v0), some (.ref v1), some (.ref v2), some (.ref v3), some (.ref v4), some (.int v5), u6, u7] [] Q))))) ∧ ((((hAI h v0 (v5).toNatClampNeg) &&& (31 : Int32)) = (23 : Int32)) → (1 < v1) ∧ ((hK h v1 = 11) ∧ (WP d mX11_acts 0 [some (.ref v1)] [] h (KK d mL_law mX11_acts 1578 [some (.ref v0), some (.ref v1), some (.ref v2), some (.ref v3), some (.ref v4), some (.int v5), u6, u7] [] Q)))) ∧ ((((hAI h v0 (v5).toNatClampNeg) &&& (31 : Int32)) = (24 : Int32)) → (inA h v0 (v5 + (1 : Int32)) = true) ∧ ((inA h v0 (v5 + (2 : Int32)) = true) ∧ (WP d mL_act 0 [some (.ref v1), some (.int (hAI h v0 ((v5 + (1 : Int32))).toNatClampNeg)), some (.int (hAI h v0 ((v5 + (2 : Int32))).toNatClampNeg)), some (.ref v3), none] [] h (KK d mL_law mL_act 1604 [some (.ref v0), some (.ref v1), some (.ref v2), some (.ref v3), some (.ref v4), some (.int v5), u6, u7] [] Q)))) ∧ ((((hAI h v0 (v5).toNatClampNeg) &&& (31 : Int32)) = (25 : Int32)) → (1 < v1) ∧ ((hK h v1 = 11) ∧ (WP d mX11_isInOrder 0 [some (.ref v1)] [] h (KK d mL_law mX11_isInOrder 1659 [some (.ref v0), some (.ref v1), some (.ref v2), some (.ref v3), some (.ref v4), some (.int v5), u6, u7] [] Q)))) ∧ ((((hAI h v0 (v5).toNatClampNeg) &&& (31 : Int32)) = (26 : Int32)) → (1 < v1) ∧ ((hK h v1 = 11) ∧ (WP d mX11_isAgreed 0 [some (.ref v1), none, none] [] h (KK d mL_law mX11_isAgreed 1672 [some (.ref v0), some (.ref v1), some (.ref v2), some (.ref v3), some (.ref v4), some (.int v5), u6, u7] [] Q)))) ∧ ((¬ ((hAI h v0 (v5).toNatClampNeg) &&& (31 : Int32)) = (0 : Int32) ∧ ¬ ((hAI h v0 (v5).toNatClampNeg) &&& (31 : Int32)) = (1 : Int32) ∧ ¬ ((hAI h v0 (v5).toNatClampNeg) &&& (31 : Int32)) = (2 : Int32) ∧ ¬ ((hAI h v0 (v5).toNatClampNeg) &&& (31 : Int32)) = (3 : Int32) ∧ ¬ ((hAI h v0 (v5).toNatClampNeg) &&& (31 : Int32)) = (4 : Int32) ∧ ¬ ((hAI h v0 (v5).toNatClampNeg) &&& (31 : Int32)) = (5 : Int32) ∧ ¬ ((hAI h v0 (v5).toNatClampNeg) &&& (31 : Int32)) = (6 : Int32) ∧ ¬ ((hAI h v0 (v5).toNatClampNeg) &&& (31 : Int32)) = (7 : Int32) ∧ ¬ ((hAI h v0 (v5).toNatClampNeg) &&& (31 : Int32)) = (8 : Int32) ∧ ¬ ((hAI h v0 (v5).toNatClampNeg) &&& (31 : Int32)) = (9 : Int32) ∧ ¬ ((hAI h v0 (v5).toNatClampNeg) &&& (31 : Int32)) = (10 : Int32) ∧ ¬ ((hAI h v0 (v5).toNatClampNeg) &&& (31 : Int32)) = (11 : Int32) ∧ ¬ ((hAI h v0 (v5).toNatClampNeg) &&& (31 : Int32)) = (12 : Int32) ∧ ¬ ((hAI h v0 (v5).toNatClampNeg) &&& (31 : Int32)) = (13 : Int32) ∧ ¬ ((hAI h v0 (v5).toNatClampNeg) &&& (31 : Int32)) = (14 : Int32) ∧ ¬ ((hAI h v0 (v5).toNatClampNeg) &&& (31 : Int32)) = (15 : Int32) ∧ ¬ ((hAI h v0 (v5).toNatClampNeg) &&& (31 : Int32)) = (16 : Int32) ∧ ¬ ((hAI h v0 (v5).toNatClampNeg) &&& (31 : Int32)) = (17 : Int32) ∧ ¬ ((hAI h v0 (v5).toNatClampNeg) &&& (31 : Int32)) = (18 : Int32) ∧ ¬ ((hAI h v0 (v5).toNatClampNeg) &&& (31 : Int32)) = (19 : Int32) ∧ ¬ ((hAI h v0 (v5).toNatClampNeg) &&& (31 : Int32)) = (20 : Int32) ∧ ¬ ((hAI h v0 (v5).toNatClampNeg) &&& (31 : Int32)) = (21 : Int32) ∧ ¬ ((hAI h v0 (v5).toNatClampNeg) &&& (31 : Int32)) = (22 : Int32) ∧ ¬ ((hAI h v0 (v5).toNatClampNeg) &&& (31 : Int32)) = (23 : Int32) ∧ ¬ ((hAI h v0 (v5).toNatClampNeg) &&& (31 : Int32)) = (24 : Int32) ∧ ¬ ((hAI h v0 (v5).toNatClampNeg) &&& (31 : Int32)) = (25 : Int32) ∧ ¬ ((hAI h v0 (v5).toNatClampNeg) &&& (31 : Int32)) = (26 : Int32)) → WP (d + 1) mL_law 28 [some (.ref v0), some (.ref v1), some (.ref v2), some (.ref v3), some (.ref v4), some (.int (v5 + (5 : Int32))), u6, u7] [] h Q)))))) : WP (d + 1) mL_law 28 [some (.ref v0), some (.ref v1), some (.ref v2), some (.ref v3), some (.ref v4), some (.int v5), u6, u7] [] h Q := by
  refine w_iload dL_law_28 rfl ?_
  refine w_aload_n dL_law_30 rfl ?_
  obtain ⟨g1, k⟩ := k
  refine w_alen dL_law_31 rfl g1.1 g1.2 ?_
  refine w_iconst dL_law_32 i1_5 ?_
  refine w_isub dL_law_33 ?_
  refine w_ic_gt (pc' := 1690) dL_law_34 rfl rfl ⟨fun c => ?_, fun c => ?_⟩
  · replace k := k.1 c
    refine w_iconst dL_law_1690 i1_1 ?_
    exact w_ireturn dL_law_1691 rfl k
  · replace k := k.2 c
    refine w_aload_n dL_law_37 rfl ?_
    refine w_iload dL_law_38 rfl ?_
    obtain ⟨g2, k⟩ := k
    obtain ⟨g3, k⟩ := k
    refine w_iaload19 dL_law_40 g2 g3 ?_
    refine w_bipush dL_law_41 i2_31 ?_
    refine w_iand dL_law_43 ?_
    by_cases c0 : ((hAI h v0 (v5).toNatClampNeg) &&& (31 : Int32)) = (0 : Int32)
    · replace k := k.1 c0
      refine w_tsw (pc' := 168) dL_law_44 (by rw [c0]; rfl) ?_
      refine w_aload_n dL_law_168 rfl ?_
      refine w_aload_n dL_law_169 rfl ?_
      refine w_iload dL_law_170 rfl ?_
      refine w_iconst dL_law_172 i1_1 ?_
      refine w_iadd dL_law_173 ?_
      obtain ⟨g4, k⟩ := k
      refine w_iaload19 dL_law_174 g2 g4 ?_
      refine w_aload_n dL_law_175 rfl ?_
      exact w_stat (as1 := [.ref v3, .int (hAI h v0 ((v5 + (1 : Int32))).toNatClampNeg), .ref v1]) (as2 := [.ref v1, .int (hAI h v0 ((v5 + (1 : Int32))).toNatClampNeg), .ref v3]) (rest := []) (lo2 := [some (.ref v1), some (.int (hAI h v0 ((v5 + (1 : Int32))).toNatClampNeg)), some (.ref v3), none]) dL_law_176 c_13_91 rfl rfl rfl (Nat.le_of_ble_eq_true rfl) (Nat.le_of_ble_eq_true rfl) rfl (Nat.le_of_ble_eq_true rfl) rfl k
    replace k := k.2
    by_cases c1 : ((hAI h v0 (v5).toNatClampNeg) &&& (31 : Int32)) = (1 : Int32)
    · replace k := k.1 c1
      refine w_tsw (pc' := 224) dL_law_44 (by rw [c1]; rfl) ?_
      refine w_aload_n dL_law_224 rfl ?_
      refine w_aload_n dL_law_225 rfl ?_
      refine w_iload dL_law_226 rfl ?_
      refine w_iconst dL_law_228 i1_1 ?_
      refine w_iadd dL_law_229 ?_
      obtain ⟨g5, k⟩ := k
      refine w_iaload19 dL_law_230 g2 g5 ?_
      refine w_aload_n dL_law_231 rfl ?_
      exact w_stat (as1 := [.ref v3, .int (hAI h v0 ((v5 + (1 : Int32))).toNatClampNeg), .ref v1]) (as2 := [.ref v1, .int (hAI h v0 ((v5 + (1 : Int32))).toNatClampNeg), .ref v3]) (rest := []) (lo2 := [some (.ref v1), some (.int (hAI h v0 ((v5 + (1 : Int32))).toNatClampNeg)), some (.ref v3), none]) dL_law_232 c_13_101 rfl rfl rfl (Nat.le_of_ble_eq_true rfl) (Nat.le_of_ble_eq_true rfl) rfl (Nat.le_of_ble_eq_true rfl) rfl k
    replace k := k.2
    by_cases c2 : ((hAI h v0 (v5).toNatClampNeg) &&& (31 : Int32)) = (2 : Int32)
    · replace k := k.1 c2
      refine w_tsw (pc' := 287) dL_law_44 (by rw [c2]; rfl) ?_
      refine w_aload_n dL_law_287 rfl ?_
      refine w_aload_n dL_law_288 rfl ?_
      refine w_iload dL_law_289 rfl ?_
      refine w_iconst dL_law_291 i1_1 ?_
      refine w_iadd dL_law_292 ?_
      obtain ⟨g6, k⟩ := k
      refine w_iaload19 dL_law_293 g2 g6 ?_
      refine w_aload_n dL_law_294 rfl ?_
      refine w_iload dL_law_295 rfl ?_
      refine w_iconst dL_law_297 i1_2 ?_
      refine w_iadd dL_law_298 ?_
      obtain ⟨g7, k⟩ := k
      refine w_iaload19 dL_law_299 g2 g7 ?_
      refine w_aload_n dL_law_300 rfl ?_
      exact w_stat (as1 := [.ref v3, .int (hAI h v0 ((v5 + (2 : Int32))).toNatClampNeg), .int (hAI h v0 ((v5 + (1 : Int32))).toNatClampNeg), .ref v1]) (as2 := [.ref v1, .int (hAI h v0 ((v5 + (1 : Int32))).toNatClampNeg), .int (hAI h v0 ((v5 + (2 : Int32))).toNatClampNeg), .ref v3]) (rest := []) (lo2 := [some (.ref v1), some (.int (hAI h v0 ((v5 + (1 : Int32))).toNatClampNeg)), some (.int (hAI h v0 ((v5 + (2 : Int32))).toNatClampNeg)), some (.ref v3), none]) dL_law_301 c_13_104 rfl rfl rfl (Nat.le_of_ble_eq_true rfl) (Nat.le_of_ble_eq_true rfl) rfl (Nat.le_of_ble_eq_true rfl) rfl k
    replace k := k.2
    by_cases c3 : ((hAI h v0 (v5).toNatClampNeg) &&& (31 : Int32)) = (3 : Int32)
    · replace k := k.1 c3
      refine w_tsw (pc' := 362) dL_law_44 (by rw [c3]; rfl) ?_
      refine w_aload_n dL_law_362 rfl ?_
      refine w_aload_n dL_law_363 rfl ?_
      refine w_iload dL_law_364 rfl ?_
      refine w_iconst dL_law_366 i1_1 ?_
      refine w_iadd dL_law_367 ?_
      obtain ⟨g8, k⟩ := k
      refine w_iaload19 dL_law_368 g2 g8 ?_
      refine w_aload_n dL_law_369 rfl ?_
      refine w_iload dL_law_370 rfl ?_
      refine w_iconst dL_law_372 i1_2 ?_
      refine w_iadd dL_law_373 ?_
      obtain ⟨g9, k⟩ := k
      refine w_iaload19 dL_law_374 g2 g9 ?_
      refine w_aload dL_law_375 rfl ?_
      exact w_stat (as1 := [.ref v4, .int (hAI h v0 ((v5 + (2 : Int32))).toNatClampNeg), .int (hAI h v0 ((v5 + (1 : Int32))).toNatClampNeg), .ref v1]) (as2 := [.ref v1, .int (hAI h v0 ((v5 + (1 : Int32))).toNatClampNeg), .int (hAI h v0 ((v5 + (2 : Int32))).toNatClampNeg), .ref v4]) (rest := []) (lo2 := [some (.ref v1), some (.int (hAI h v0 ((v5 + (1 : Int32))).toNatClampNeg)), some (.int (hAI h v0 ((v5 + (2 : Int32))).toNatClampNeg)), some (.ref v4), none]) dL_law_377 c_13_108 rfl rfl rfl (Nat.le_of_ble_eq_true rfl) (Nat.le_of_ble_eq_true rfl) rfl (Nat.le_of_ble_eq_true rfl) rfl k
    replace k := k.2
    by_cases c4 : ((hAI h v0 (v5).toNatClampNeg) &&& (31 : Int32)) = (4 : Int32)
    · replace k := k.1 c4
      refine w_tsw (pc' := 452) dL_law_44 (by rw [c4]; rfl) ?_
      refine w_aload_n dL_law_452 rfl ?_
      refine w_aload_n dL_law_453 rfl ?_
      refine w_iload dL_law_454 rfl ?_
      refine w_iconst dL_law_456 i1_1 ?_
      refine w_iadd dL_law_457 ?_
      obtain ⟨g10, k⟩ := k
      refine w_iaload19 dL_law_458 g2 g10 ?_
      refine w_aload_n dL_law_459 rfl ?_
      refine w_iload dL_law_460 rfl ?_
      refine w_iconst dL_law_462 i1_2 ?_
      refine w_iadd dL_law_463 ?_
      obtain ⟨g11, k⟩ := k
      refine w_iaload19 dL_law_464 g2 g11 ?_
      exact w_stat (as1 := [.int (hAI h v0 ((v5 + (2 : Int32))).toNatClampNeg), .int (hAI h v0 ((v5 + (1 : Int32))).toNatClampNeg), .ref v1]) (as2 := [.ref v1, .int (hAI h v0 ((v5 + (1 : Int32))).toNatClampNeg), .int (hAI h v0 ((v5 + (2 : Int32))).toNatClampNeg)]) (rest := []) (lo2 := [some (.ref v1), some (.int (hAI h v0 ((v5 + (1 : Int32))).toNatClampNeg)), some (.int (hAI h v0 ((v5 + (2 : Int32))).toNatClampNeg)), none]) dL_law_465 c_13_112 rfl rfl rfl (Nat.le_of_ble_eq_true rfl) (Nat.le_of_ble_eq_true rfl) rfl (Nat.le_of_ble_eq_true rfl) rfl k
    replace k := k.2
    by_cases c5 : ((hAI h v0 (v5).toNatClampNeg) &&& (31 : Int32)) = (5 : Int32)
    · replace k := k.1 c5
      refine w_tsw (pc' := 500) dL_law_44 (by rw [c5]; rfl) ?_
      refine w_aload_n dL_law_500 rfl ?_
      refine w_aload_n dL_law_501 rfl ?_
      refine w_iload dL_law_502 rfl ?_
      refine w_iconst dL_law_504 i1_1 ?_
      refine w_iadd dL_law_505 ?_
      obtain ⟨g12, k⟩ := k
      refine w_iaload19 dL_law_506 g2 g12 ?_
      refine w_aload dL_law_507 rfl ?_
      exact w_stat (as1 := [.ref v4, .int (hAI h v0 ((v5 + (1 : Int32))).toNatClampNeg), .ref v1]) (as2 := [.ref v1, .int (hAI h v0 ((v5 + (1 : Int32))).toNatClampNeg), .ref v4]) (rest := []) (lo2 := [some (.ref v1), some (.int (hAI h v0 ((v5 + (1 : Int32))).toNatClampNeg)), some (.ref v4), none]) dL_law_509 c_13_116 rfl rfl rfl (Nat.le_of_ble_eq_true rfl) (Nat.le_of_ble_eq_true rfl) rfl (Nat.le_of_ble_eq_true rfl) rfl k
    replace k := k.2
    by_cases c6 : ((hAI h v0 (v5).toNatClampNeg) &&& (31 : Int32)) = (6 : Int32)
    · replace k := k.1 c6
      refine w_tsw (pc' := 578) dL_law_44 (by rw [c6]; rfl) ?_
      refine w_aload_n dL_law_578 rfl ?_
      refine w_aload_n dL_law_579 rfl ?_
      refine w_iload dL_law_580 rfl ?_
      refine w_iconst dL_law_582 i1_1 ?_
      refine w_iadd dL_law_583 ?_
      obtain ⟨g13, k⟩ := k
      refine w_iaload19 dL_law_584 g2 g13 ?_
      refine w_aload_n dL_law_585 rfl ?_
      exact w_stat (as1 := [.ref v3, .int (hAI h v0 ((v5 + (1 : Int32))).toNatClampNeg), .ref v1]) (as2 := [.ref v1, .int (hAI h v0 ((v5 + (1 : Int32))).toNatClampNeg), .ref v3]) (rest := []) (lo2 := [some (.ref v1), some (.int (hAI h v0 ((v5 + (1 : Int32))).toNatClampNeg)), some (.ref v3), none]) dL_law_586 c_13_120 rfl rfl rfl (Nat.le_of_ble_eq_true rfl) (Nat.le_of_ble_eq_true rfl) rfl (Nat.le_of_ble_eq_true rfl) rfl k
    replace k := k.2
    by_cases c7 : ((hAI h v0 (v5).toNatClampNeg) &&& (31 : Int32)) = (7 : Int32)
    · replace k := k.1 c7
      refine w_tsw (pc' := 634) dL_law_44 (by rw [c7]; rfl) ?_
      refine w_aload_n dL_law_634 rfl ?_
      refine w_aload_n dL_law_635 rfl ?_
      refine w_iload dL_law_636 rfl ?_
      refine w_iconst dL_law_638 i1_1 ?_
      refine w_iadd dL_law_639 ?_
      obtain ⟨g14, k⟩ := k
      refine w_iaload19 dL_law_640 g2 g14 ?_
      refine w_aload_n dL_law_641 rfl ?_
      exact w_stat (as1 := [.ref v3, .int (hAI h v0 ((v5 + (1 : Int32))).toNatClampNeg), .ref v1]) (as2 := [.ref v1, .int (hAI h v0 ((v5 + (1 : Int32))).toNatClampNeg), .ref v3]) (rest := []) (lo2 := [some (.ref v1), some (.int (hAI h v0 ((v5 + (1 : Int32))).toNatClampNeg)), some (.ref v3), none]) dL_law_642 c_13_123 rfl rfl rfl (Nat.le_of_ble_eq_true rfl) (Nat.le_of_ble_eq_true rfl) rfl (Nat.le_of_ble_eq_true rfl) rfl k
    replace k := k.2
    by_cases c8 : ((hAI h v0 (v5).toNatClampNeg) &&& (31 : Int32)) = (8 : Int32)
    · replace k := k.1 c8
      refine w_tsw (pc' := 690) dL_law_44 (by rw [c8]; rfl) ?_
      refine w_aload_n dL_law_690 rfl ?_
      refine w_aload_n dL_law_691 rfl ?_
      refine w_iload dL_law_692 rfl ?_
      refine w_iconst dL_law_694 i1_1 ?_
      refine w_iadd dL_law_695 ?_
      obtain ⟨g15, k⟩ := k
      refine w_iaload19 dL_law_696 g2 g15 ?_
      refine w_aload_n dL_law_697 rfl ?_
      exact w_stat (as1 := [.ref v3, .int (hAI h v0 ((v5 + (1 : Int32))).toNatClampNeg), .ref v1]) (as2 := [.ref v1, .int (hAI h v0 ((v5 + (1 : Int32))).toNatClampNeg), .ref v3]) (rest := []) (lo2 := [some (.ref v1), some (.int (hAI h v0 ((v5 + (1 : Int32))).toNatClampNeg)), some (.ref v3), none]) dL_law_698 c_13_126 rfl rfl rfl (Nat.le_of_ble_eq_true rfl) (Nat.le_of_ble_eq_true rfl) rfl (Nat.le_of_ble_eq_true rfl) rfl k
    replace k := k.2
    by_cases c9 : ((hAI h v0 (v5).toNatClampNeg) &&& (31 : Int32)) = (9 : Int32)
    · replace k := k.1 c9
      refine w_tsw (pc' := 746) dL_law_44 (by rw [c9]; rfl) ?_
      refine w_aload_n dL_law_746 rfl ?_
      refine w_aload_n dL_law_747 rfl ?_
      refine w_iload dL_law_748 rfl ?_
      refine w_iconst dL_law_750 i1_1 ?_
      refine w_iadd dL_law_751 ?_
      obtain ⟨g16, k⟩ := k
      refine w_iaload19 dL_law_752 g2 g16 ?_
      refine w_aload_n dL_law_753 rfl ?_
      exact w_stat (as1 := [.ref v3, .int (hAI h v0 ((v5 + (1 : Int32))).toNatClampNeg), .ref v1]) (as2 := [.ref v1, .int (hAI h v0 ((v5 + (1 : Int32))).toNatClampNeg), .ref v3]) (rest := []) (lo2 := [some (.ref v1), some (.int (hAI h v0 ((v5 + (1 : Int32))).toNatClampNeg)), some (.ref v3), none]) dL_law_754 c_13_129 rfl rfl rfl (Nat.le_of_ble_eq_true rfl) (Nat.le_of_ble_eq_true rfl) rfl (Nat.le_of_ble_eq_true rfl) rfl k
    replace k := k.2
    by_cases c10 : ((hAI h v0 (v5).toNatClampNeg) &&& (31 : Int32)) = (10 : Int32)
    · replace k := k.1 c10
      refine w_tsw (pc' := 802) dL_law_44 (by rw [c10]; rfl) ?_
      refine w_aload_n dL_law_802 rfl ?_
      refine w_aload_n dL_law_803 rfl ?_
      refine w_iload dL_law_804 rfl ?_
      refine w_iconst dL_law_806 i1_1 ?_
      refine w_iadd dL_law_807 ?_
      obtain ⟨g17, k⟩ := k
      refine w_iaload19 dL_law_808 g2 g17 ?_
      refine w_aload_n dL_law_809 rfl ?_
      exact w_stat (as1 := [.ref v3, .int (hAI h v0 ((v5 + (1 : Int32))).toNatClampNeg), .ref v1]) (as2 := [.ref v1, .int (hAI h v0 ((v5 + (1 : Int32))).toNatClampNeg), .ref v3]) (rest := []) (lo2 := [some (.ref v1), some (.int (hAI h v0 ((v5 + (1 : Int32))).toNatClampNeg)), some (.ref v3), none]) dL_law_810 c_13_132 rfl rfl rfl (Nat.le_of_ble_eq_true rfl) (Nat.le_of_ble_eq_true rfl) rfl (Nat.le_of_ble_eq_true rfl) rfl k
    replace k := k.2
    by_cases c11 : ((hAI h v0 (v5).toNatClampNeg) &&& (31 : Int32)) = (11 : Int32)
    · replace k := k.1 c11
      refine w_tsw (pc' := 858) dL_law_44 (by rw [c11]; rfl) ?_
      refine w_aload_n dL_law_858 rfl ?_
      refine w_aload_n dL_law_859 rfl ?_
      refine w_iload dL_law_860 rfl ?_
      refine w_iconst dL_law_862 i1_1 ?_
      refine w_iadd dL_law_863 ?_
      obtain ⟨g18, k⟩ := k
      refine w_iaload19 dL_law_864 g2 g18 ?_
      refine w_aload_n dL_law_865 rfl ?_
      refine w_iload dL_law_866 rfl ?_
      refine w_iconst dL_law_868 i1_2 ?_
      refine w_iadd dL_law_869 ?_
      obtain ⟨g19, k⟩ := k
      refine w_iaload19 dL_law_870 g2 g19 ?_
      refine w_aload_n dL_law_871 rfl ?_
      refine w_iload dL_law_872 rfl ?_
      refine w_iconst dL_law_874 i1_3 ?_
      refine w_iadd dL_law_875 ?_
      obtain ⟨g20, k⟩ := k
      refine w_iaload19 dL_law_876 g2 g20 ?_
      refine w_aload_n dL_law_877 rfl ?_
      refine w_iload dL_law_878 rfl ?_
      refine w_iconst dL_law_880 i1_4 ?_
      refine w_iadd dL_law_881 ?_
      obtain ⟨g21, k⟩ := k
      refine w_iaload19 dL_law_882 g2 g21 ?_
      refine w_aload_n dL_law_883 rfl ?_
      exact w_stat (as1 := [.ref v3, .int (hAI h v0 ((v5 + (4 : Int32))).toNatClampNeg), .int (hAI h v0 ((v5 + (3 : Int32))).toNatClampNeg), .int (hAI h v0 ((v5 + (2 : Int32))).toNatClampNeg), .int (hAI h v0 ((v5 + (1 : Int32))).toNatClampNeg), .ref v1]) (as2 := [.ref v1, .int (hAI h v0 ((v5 + (1 : Int32))).toNatClampNeg), .int (hAI h v0 ((v5 + (2 : Int32))).toNatClampNeg), .int (hAI h v0 ((v5 + (3 : Int32))).toNatClampNeg), .int (hAI h v0 ((v5 + (4 : Int32))).toNatClampNeg), .ref v3]) (rest := []) (lo2 := [some (.ref v1), some (.int (hAI h v0 ((v5 + (1 : Int32))).toNatClampNeg)), some (.int (hAI h v0 ((v5 + (2 : Int32))).toNatClampNeg)), some (.int (hAI h v0 ((v5 + (3 : Int32))).toNatClampNeg)), some (.int (hAI h v0 ((v5 + (4 : Int32))).toNatClampNeg)), some (.ref v3), none]) dL_law_884 c_13_135 rfl rfl rfl (Nat.le_of_ble_eq_true rfl) (Nat.le_of_ble_eq_true rfl) rfl (Nat.le_of_ble_eq_true rfl) rfl k
    replace k := k.2
    by_cases c12 : ((hAI h v0 (v5).toNatClampNeg) &&& (31 : Int32)) = (12 : Int32)
    · replace k := k.1 c12
      refine w_tsw (pc' := 950) dL_law_44 (by rw [c12]; rfl) ?_
      refine w_aload_n dL_law_950 rfl ?_
      refine w_aload_n dL_law_951 rfl ?_
      refine w_iload dL_law_952 rfl ?_
      refine w_iconst dL_law_954 i1_1 ?_
      refine w_iadd dL_law_955 ?_
      obtain ⟨g22, k⟩ := k
      refine w_iaload19 dL_law_956 g2 g22 ?_
      refine w_aload_n dL_law_957 rfl ?_
      exact w_stat (as1 := [.ref v3, .int (hAI h v0 ((v5 + (1 : Int32))).toNatClampNeg), .ref v1]) (as2 := [.ref v1, .int (hAI h v0 ((v5 + (1 : Int32))).toNatClampNeg), .ref v3]) (rest := []) (lo2 := [some (.ref v1), some (.int (hAI h v0 ((v5 + (1 : Int32))).toNatClampNeg)), some (.ref v3), none]) dL_law_958 c_13_139 rfl rfl rfl (Nat.le_of_ble_eq_true rfl) (Nat.le_of_ble_eq_true rfl) rfl (Nat.le_of_ble_eq_true rfl) rfl k
    replace k := k.2
    by_cases c13 : ((hAI h v0 (v5).toNatClampNeg) &&& (31 : Int32)) = (13 : Int32)
    · replace k := k.1 c13
      refine w_tsw (pc' := 1006) dL_law_44 (by rw [c13]; rfl) ?_
      refine w_aload_n dL_law_1006 rfl ?_
      refine w_aload_n dL_law_1007 rfl ?_
      refine w_iload dL_law_1008 rfl ?_
      refine w_iconst dL_law_1010 i1_1 ?_
      refine w_iadd dL_law_1011 ?_
      obtain ⟨g23, k⟩ := k
      refine w_iaload19 dL_law_1012 g2 g23 ?_
      refine w_aload_n dL_law_1013 rfl ?_
      refine w_iload dL_law_1014 rfl ?_
      refine w_iconst dL_law_1016 i1_2 ?_
      refine w_iadd dL_law_1017 ?_
      obtain ⟨g24, k⟩ := k
      refine w_iaload19 dL_law_1018 g2 g24 ?_
      refine w_aload_n dL_law_1019 rfl ?_
      refine w_iload dL_law_1020 rfl ?_
      refine w_iconst dL_law_1022 i1_3 ?_
      refine w_iadd dL_law_1023 ?_
      obtain ⟨g25, k⟩ := k
      refine w_iaload19 dL_law_1024 g2 g25 ?_
      refine w_aload_n dL_law_1025 rfl ?_
      exact w_stat (as1 := [.ref v3, .int (hAI h v0 ((v5 + (3 : Int32))).toNatClampNeg), .int (hAI h v0 ((v5 + (2 : Int32))).toNatClampNeg), .int (hAI h v0 ((v5 + (1 : Int32))).toNatClampNeg), .ref v1]) (as2 := [.ref v1, .int (hAI h v0 ((v5 + (1 : Int32))).toNatClampNeg), .int (hAI h v0 ((v5 + (2 : Int32))).toNatClampNeg), .int (hAI h v0 ((v5 + (3 : Int32))).toNatClampNeg), .ref v3]) (rest := []) (lo2 := [some (.ref v1), some (.int (hAI h v0 ((v5 + (1 : Int32))).toNatClampNeg)), some (.int (hAI h v0 ((v5 + (2 : Int32))).toNatClampNeg)), some (.int (hAI h v0 ((v5 + (3 : Int32))).toNatClampNeg)), some (.ref v3), none]) dL_law_1026 c_13_142 rfl rfl rfl (Nat.le_of_ble_eq_true rfl) (Nat.le_of_ble_eq_true rfl) rfl (Nat.le_of_ble_eq_true rfl) rfl k
    replace k := k.2
    by_cases c14 : ((hAI h v0 (v5).toNatClampNeg) &&& (31 : Int32)) = (14 : Int32)
    · replace k := k.1 c14
      refine w_tsw (pc' := 1086) dL_law_44 (by rw [c14]; rfl) ?_
      refine w_aload_n dL_law_1086 rfl ?_
      obtain ⟨g26, k⟩ := k
      obtain ⟨g27, k⟩ := k
      exact w_virt (as1 := [.ref v1]) (as2 := [.ref v1]) (rest := []) (lo2 := [some (.ref v1)]) dL_law_1087 c_13_146 rfl rfl rfl (Nat.le_of_ble_eq_true rfl) (Nat.le_of_ble_eq_true rfl) rfl (Nat.le_of_ble_eq_true rfl) rfl rfl g26 g27 k
    replace k := k.2
    by_cases c15 : ((hAI h v0 (v5).toNatClampNeg) &&& (31 : Int32)) = (15 : Int32)
    · replace k := k.1 c15
      refine w_tsw (pc' := 1099) dL_law_44 (by rw [c15]; rfl) ?_
      refine w_aload_n dL_law_1099 rfl ?_
      obtain ⟨g28, k⟩ := k
      obtain ⟨g29, k⟩ := k
      exact w_virt (as1 := [.ref v1]) (as2 := [.ref v1]) (rest := []) (lo2 := [some (.ref v1)]) dL_law_1100 c_13_150 rfl rfl rfl (Nat.le_of_ble_eq_true rfl) (Nat.le_of_ble_eq_true rfl) rfl (Nat.le_of_ble_eq_true rfl) rfl rfl g28 g29 k
    replace k := k.2
    by_cases c16 : ((hAI h v0 (v5).toNatClampNeg) &&& (31 : Int32)) = (16 : Int32)
    · replace k := k.1 c16
      refine w_tsw (pc' := 1112) dL_law_44 (by rw [c16]; rfl) ?_
      refine w_aload_n dL_law_1112 rfl ?_
      refine w_aload_n dL_law_1113 rfl ?_
      refine w_iload dL_law_1114 rfl ?_
      refine w_iconst dL_law_1116 i1_1 ?_
      refine w_iadd dL_law_1117 ?_
      obtain ⟨g30, k⟩ := k
      refine w_iaload19 dL_law_1118 g2 g30 ?_
      refine w_aload_n dL_law_1119 rfl ?_
      refine w_iload dL_law_1120 rfl ?_
      refine w_iconst dL_law_1122 i1_2 ?_
      refine w_iadd dL_law_1123 ?_
      obtain ⟨g31, k⟩ := k
      refine w_iaload19 dL_law_1124 g2 g31 ?_
      refine w_aload_n dL_law_1125 rfl ?_
      exact w_stat (as1 := [.ref v3, .int (hAI h v0 ((v5 + (2 : Int32))).toNatClampNeg), .int (hAI h v0 ((v5 + (1 : Int32))).toNatClampNeg), .ref v1]) (as2 := [.ref v1, .int (hAI h v0 ((v5 + (1 : Int32))).toNatClampNeg), .int (hAI h v0 ((v5 + (2 : Int32))).toNatClampNeg), .ref v3]) (rest := []) (lo2 := [some (.ref v1), some (.int (hAI h v0 ((v5 + (1 : Int32))).toNatClampNeg)), some (.int (hAI h v0 ((v5 + (2 : Int32))).toNatClampNeg)), some (.ref v3), none]) dL_law_1126 c_13_154 rfl rfl rfl (Nat.le_of_ble_eq_true rfl) (Nat.le_of_ble_eq_true rfl) rfl (Nat.le_of_ble_eq_true rfl) rfl k
    replace k := k.2
    by_cases c17 : ((hAI h v0 (v5).toNatClampNeg) &&& (31 : Int32)) = (17 : Int32)
    · replace k := k.1 c17
      refine w_tsw (pc' := 1180) dL_law_44 (by rw [c17]; rfl) ?_
      refine w_aload_n dL_law_1180 rfl ?_
      refine w_aload_n dL_law_1181 rfl ?_
      refine w_iload dL_law_1182 rfl ?_
      refine w_iconst dL_law_1184 i1_1 ?_
      refine w_iadd dL_law_1185 ?_
      obtain ⟨g32, k⟩ := k
      refine w_iaload19 dL_law_1186 g2 g32 ?_
      refine w_aload_n dL_law_1187 rfl ?_
      refine w_iload dL_law_1188 rfl ?_
      refine w_iconst dL_law_1190 i1_2 ?_
      refine w_iadd dL_law_1191 ?_
      obtain ⟨g33, k⟩ := k
      refine w_iaload19 dL_law_1192 g2 g33 ?_
      refine w_aload_n dL_law_1193 rfl ?_
      exact w_stat (as1 := [.ref v3, .int (hAI h v0 ((v5 + (2 : Int32))).toNatClampNeg), .int (hAI h v0 ((v5 + (1 : Int32))).toNatClampNeg), .ref v1]) (as2 := [.ref v1, .int (hAI h v0 ((v5 + (1 : Int32))).toNatClampNeg), .int (hAI h v0 ((v5 + (2 : Int32))).toNatClampNeg), .ref v3]) (rest := []) (lo2 := [some (.ref v1), some (.int (hAI h v0 ((v5 + (1 : Int32))).toNatClampNeg)), some (.int (hAI h v0 ((v5 + (2 : Int32))).toNatClampNeg)), some (.ref v3), none]) dL_law_1194 c_13_157 rfl rfl rfl (Nat.le_of_ble_eq_true rfl) (Nat.le_of_ble_eq_true rfl) rfl (Nat.le_of_ble_eq_true rfl) rfl k
    replace k := k.2
    by_cases c18 : ((hAI h v0 (v5).toNatClampNeg) &&& (31 : Int32)) = (18 : Int32)
    · replace k := k.1 c18
      refine w_tsw (pc' := 1248) dL_law_44 (by rw [c18]; rfl) ?_
      refine w_aload_n dL_law_1248 rfl ?_
      refine w_aload_n dL_law_1249 rfl ?_
      refine w_iload dL_law_1250 rfl ?_
      refine w_iconst dL_law_1252 i1_1 ?_
      refine w_iadd dL_law_1253 ?_
      obtain ⟨g34, k⟩ := k
      refine w_iaload19 dL_law_1254 g2 g34 ?_
      refine w_aload_n dL_law_1255 rfl ?_
      refine w_iload dL_law_1256 rfl ?_
      refine w_iconst dL_law_1258 i1_2 ?_
      refine w_iadd dL_law_1259 ?_
      obtain ⟨g35, k⟩ := k
      refine w_iaload19 dL_law_1260 g2 g35 ?_
      refine w_aload_n dL_law_1261 rfl ?_
      refine w_iload dL_law_1262 rfl ?_
      refine w_iconst dL_law_1264 i1_3 ?_
      refine w_iadd dL_law_1265 ?_
      obtain ⟨g36, k⟩ := k
      refine w_iaload19 dL_law_1266 g2 g36 ?_
      refine w_aload_n dL_law_1267 rfl ?_
      exact w_stat (as1 := [.ref v3, .int (hAI h v0 ((v5 + (3 : Int32))).toNatClampNeg), .int (hAI h v0 ((v5 + (2 : Int32))).toNatClampNeg), .int (hAI h v0 ((v5 + (1 : Int32))).toNatClampNeg), .ref v1]) (as2 := [.ref v1, .int (hAI h v0 ((v5 + (1 : Int32))).toNatClampNeg), .int (hAI h v0 ((v5 + (2 : Int32))).toNatClampNeg), .int (hAI h v0 ((v5 + (3 : Int32))).toNatClampNeg), .ref v3]) (rest := []) (lo2 := [some (.ref v1), some (.int (hAI h v0 ((v5 + (1 : Int32))).toNatClampNeg)), some (.int (hAI h v0 ((v5 + (2 : Int32))).toNatClampNeg)), some (.int (hAI h v0 ((v5 + (3 : Int32))).toNatClampNeg)), some (.ref v3), none]) dL_law_1268 c_13_160 rfl rfl rfl (Nat.le_of_ble_eq_true rfl) (Nat.le_of_ble_eq_true rfl) rfl (Nat.le_of_ble_eq_true rfl) rfl k
    replace k := k.2
    by_cases c19 : ((hAI h v0 (v5).toNatClampNeg) &&& (31 : Int32)) = (19 : Int32)
    · replace k := k.1 c19
      refine w_tsw (pc' := 1328) dL_law_44 (by rw [c19]; rfl) ?_
      refine w_aload_n dL_law_1328 rfl ?_
      refine w_aload_n dL_law_1329 rfl ?_
      refine w_iload dL_law_1330 rfl ?_
      refine w_iconst dL_law_1332 i1_1 ?_
      refine w_iadd dL_law_1333 ?_
      obtain ⟨g37, k⟩ := k
      refine w_iaload19 dL_law_1334 g2 g37 ?_
      refine w_aload dL_law_1335 rfl ?_
      exact w_stat (as1 := [.ref v4, .int (hAI h v0 ((v5 + (1 : Int32))).toNatClampNeg), .ref v1]) (as2 := [.ref v1, .int (hAI h v0 ((v5 + (1 : Int32))).toNatClampNeg), .ref v4]) (rest := []) (lo2 := [some (.ref v1), some (.int (hAI h v0 ((v5 + (1 : Int32))).toNatClampNeg)), some (.ref v4), none]) dL_law_1337 c_13_163 rfl rfl rfl (Nat.le_of_ble_eq_true rfl) (Nat.le_of_ble_eq_true rfl) rfl (Nat.le_of_ble_eq_true rfl) rfl k
    replace k := k.2
    by_cases c20 : ((hAI h v0 (v5).toNatClampNeg) &&& (31 : Int32)) = (20 : Int32)
    · replace k := k.1 c20
      refine w_tsw (pc' := 1406) dL_law_44 (by rw [c20]; rfl) ?_
      refine w_aload_n dL_law_1406 rfl ?_
      refine w_aload_n dL_law_1407 rfl ?_
      refine w_iload dL_law_1408 rfl ?_
      refine w_iconst dL_law_1410 i1_1 ?_
      refine w_iadd dL_law_1411 ?_
      obtain ⟨g38, k⟩ := k
      refine w_iaload19 dL_law_1412 g2 g38 ?_
      refine w_aload dL_law_1413 rfl ?_
      exact w_stat (as1 := [.ref v4, .int (hAI h v0 ((v5 + (1 : Int32))).toNatClampNeg), .ref v1]) (as2 := [.ref v1, .int (hAI h v0 ((v5 + (1 : Int32))).toNatClampNeg), .ref v4]) (rest := []) (lo2 := [some (.ref v1), some (.int (hAI h v0 ((v5 + (1 : Int32))).toNatClampNeg)), some (.ref v4), none]) dL_law_1415 c_13_166 rfl rfl rfl (Nat.le_of_ble_eq_true rfl) (Nat.le_of_ble_eq_true rfl) rfl (Nat.le_of_ble_eq_true rfl) rfl k
    replace k := k.2
    by_cases c21 : ((hAI h v0 (v5).toNatClampNeg) &&& (31 : Int32)) = (21 : Int32)
    · replace k := k.1 c21
      refine w_tsw (pc' := 1484) dL_law_44 (by rw [c21]; rfl) ?_
      refine w_aload_n dL_law_1484 rfl ?_
      obtain ⟨g39, k⟩ := k
      obtain ⟨g40, k⟩ := k
      exact w_virt (as1 := [.ref v1]) (as2 := [.ref v1]) (rest := []) (lo2 := [some (.ref v1), none, none]) dL_law_1485 c_13_169 rfl rfl rfl (Nat.le_of_ble_eq_true rfl) (Nat.le_of_ble_eq_true rfl) rfl (Nat.le_of_ble_eq_true rfl) rfl rfl g39 g40 k
    replace k := k.2
    by_cases c22 : ((hAI h v0 (v5).toNatClampNeg) &&& (31 : Int32)) = (22 : Int32)
    · replace k := k.1 c22
      refine w_tsw (pc' := 1497) dL_law_44 (by rw [c22]; rfl) ?_
      refine w_aload_n dL_law_1497 rfl ?_
      refine w_aload_n dL_law_1498 rfl ?_
      refine w_iload dL_law_1499 rfl ?_
      refine w_iconst dL_law_1501 i1_1 ?_
      refine w_iadd dL_law_1502 ?_
      obtain ⟨g41, k⟩ := k
      refine w_iaload19 dL_law_1503 g2 g41 ?_
      refine w_aload_n dL_law_1504 rfl ?_
      refine w_iload dL_law_1505 rfl ?_
      refine w_iconst dL_law_1507 i1_2 ?_
      refine w_iadd dL_law_1508 ?_
      obtain ⟨g42, k⟩ := k
      refine w_iaload19 dL_law_1509 g2 g42 ?_
      refine w_aload_n dL_law_1510 rfl ?_
      refine w_iload dL_law_1511 rfl ?_
      refine w_iconst dL_law_1513 i1_3 ?_
      refine w_iadd dL_law_1514 ?_
      obtain ⟨g43, k⟩ := k
      refine w_iaload19 dL_law_1515 g2 g43 ?_
      refine w_aload_n dL_law_1516 rfl ?_
      exact w_stat (as1 := [.ref v3, .int (hAI h v0 ((v5 + (3 : Int32))).toNatClampNeg), .int (hAI h v0 ((v5 + (2 : Int32))).toNatClampNeg), .int (hAI h v0 ((v5 + (1 : Int32))).toNatClampNeg), .ref v1]) (as2 := [.ref v1, .int (hAI h v0 ((v5 + (1 : Int32))).toNatClampNeg), .int (hAI h v0 ((v5 + (2 : Int32))).toNatClampNeg), .int (hAI h v0 ((v5 + (3 : Int32))).toNatClampNeg), .ref v3]) (rest := []) (lo2 := [some (.ref v1), some (.int (hAI h v0 ((v5 + (1 : Int32))).toNatClampNeg)), some (.int (hAI h v0 ((v5 + (2 : Int32))).toNatClampNeg)), some (.int (hAI h v0 ((v5 + (3 : Int32))).toNatClampNeg)), some (.ref v3), none]) dL_law_1517 c_13_173 rfl rfl rfl (Nat.le_of_ble_eq_true rfl) (Nat.le_of_ble_eq_true rfl) rfl (Nat.le_of_ble_eq_true rfl) rfl k
    replace k := k.2
    by_cases c23 : ((hAI h v0 (v5).toNatClampNeg) &&& (31 : Int32)) = (23 : Int32)
    · replace k := k.1 c23
      refine w_tsw (pc' := 1577) dL_law_44 (by rw [c23]; rfl) ?_
      refine w_aload_n dL_law_1577 rfl ?_
      obtain ⟨g44, k⟩ := k
      obtain ⟨g45, k⟩ := k
      exact w_virt (as1 := [.ref v1]) (as2 := [.ref v1]) (rest := []) (lo2 := [some (.ref v1)]) dL_law_1578 c_13_176 rfl rfl rfl (Nat.le_of_ble_eq_true rfl) (Nat.le_of_ble_eq_true rfl) rfl (Nat.le_of_ble_eq_true rfl) rfl rfl g44 g45 k
    replace k := k.2
    by_cases c24 : ((hAI h v0 (v5).toNatClampNeg) &&& (31 : Int32)) = (24 : Int32)
    · replace k := k.1 c24
      refine w_tsw (pc' := 1590) dL_law_44 (by rw [c24]; rfl) ?_
      refine w_aload_n dL_law_1590 rfl ?_
      refine w_aload_n dL_law_1591 rfl ?_
      refine w_iload dL_law_1592 rfl ?_
      refine w_iconst dL_law_1594 i1_1 ?_
      refine w_iadd dL_law_1595 ?_
      obtain ⟨g46, k⟩ := k
      refine w_iaload19 dL_law_1596 g2 g46 ?_
      refine w_aload_n dL_law_1597 rfl ?_
      refine w_iload dL_law_1598 rfl ?_
      refine w_iconst dL_law_1600 i1_2 ?_
      refine w_iadd dL_law_1601 ?_
      obtain ⟨g47, k⟩ := k
      refine w_iaload19 dL_law_1602 g2 g47 ?_
      refine w_aload_n dL_law_1603 rfl ?_
      exact w_stat (as1 := [.ref v3, .int (hAI h v0 ((v5 + (2 : Int32))).toNatClampNeg), .int (hAI h v0 ((v5 + (1 : Int32))).toNatClampNeg), .ref v1]) (as2 := [.ref v1, .int (hAI h v0 ((v5 + (1 : Int32))).toNatClampNeg), .int (hAI h v0 ((v5 + (2 : Int32))).toNatClampNeg), .ref v3]) (rest := []) (lo2 := [some (.ref v1), some (.int (hAI h v0 ((v5 + (1 : Int32))).toNatClampNeg)), some (.int (hAI h v0 ((v5 + (2 : Int32))).toNatClampNeg)), some (.ref v3), none]) dL_law_1604 c_13_180 rfl rfl rfl (Nat.le_of_ble_eq_true rfl) (Nat.le_of_ble_eq_true rfl) rfl (Nat.le_of_ble_eq_true rfl) rfl k
    replace k := k.2
    by_cases c25 : ((hAI h v0 (v5).toNatClampNeg) &&& (31 : Int32)) = (25 : Int32)
    · replace k := k.1 c25
      refine w_tsw (pc' := 1658) dL_law_44 (by rw [c25]; rfl) ?_
      refine w_aload_n dL_law_1658 rfl ?_
      obtain ⟨g48, k⟩ := k
      obtain ⟨g49, k⟩ := k
      exact w_virt (as1 := [.ref v1]) (as2 := [.ref v1]) (rest := []) (lo2 := [some (.ref v1)]) dL_law_1659 c_13_183 rfl rfl rfl (Nat.le_of_ble_eq_true rfl) (Nat.le_of_ble_eq_true rfl) rfl (Nat.le_of_ble_eq_true rfl) rfl rfl g48 g49 k
    replace k := k.2
    by_cases c26 : ((hAI h v0 (v5).toNatClampNeg) &&& (31 : Int32)) = (26 : Int32)
    · replace k := k.1 c26
      refine w_tsw (pc' := 1671) dL_law_44 (by rw [c26]; rfl) ?_
      refine w_aload_n dL_law_1671 rfl ?_
      obtain ⟨g50, k⟩ := k
      obtain ⟨g51, k⟩ := k
      exact w_virt (as1 := [.ref v1]) (as2 := [.ref v1]) (rest := []) (lo2 := [some (.ref v1), none, none]) dL_law_1672 c_13_188 rfl rfl rfl (Nat.le_of_ble_eq_true rfl) (Nat.le_of_ble_eq_true rfl) rfl (Nat.le_of_ble_eq_true rfl) rfl rfl g50 g51 k
    replace k := k.2
    have e0 := ts_ne c0 (k := 0) rfl
    have e1 := ts_ne c1 (k := 1) rfl
    have e2 := ts_ne c2 (k := 2) rfl
    have e3 := ts_ne c3 (k := 3) rfl
    have e4 := ts_ne c4 (k := 4) rfl
    have e5 := ts_ne c5 (k := 5) rfl
    have e6 := ts_ne c6 (k := 6) rfl
    have e7 := ts_ne c7 (k := 7) rfl
    have e8 := ts_ne c8 (k := 8) rfl
    have e9 := ts_ne c9 (k := 9) rfl
    have e10 := ts_ne c10 (k := 10) rfl
    have e11 := ts_ne c11 (k := 11) rfl
    have e12 := ts_ne c12 (k := 12) rfl
    have e13 := ts_ne c13 (k := 13) rfl
    have e14 := ts_ne c14 (k := 14) rfl
    have e15 := ts_ne c15 (k := 15) rfl
    have e16 := ts_ne c16 (k := 16) rfl
    have e17 := ts_ne c17 (k := 17) rfl
    have e18 := ts_ne c18 (k := 18) rfl
    have e19 := ts_ne c19 (k := 19) rfl
    have e20 := ts_ne c20 (k := 20) rfl
    have e21 := ts_ne c21 (k := 21) rfl
    have e22 := ts_ne c22 (k := 22) rfl
    have e23 := ts_ne c23 (k := 23) rfl
    have e24 := ts_ne c24 (k := 24) rfl
    have e25 := ts_ne c25 (k := 25) rfl
    have e26 := ts_ne c26 (k := 26) rfl
    replace k := k ⟨c0, c1, c2, c3, c4, c5, c6, c7, c8, c9, c10, c11, c12, c13, c14, c15, c16, c17, c18, c19, c20, c21, c22, c23, c24, c25, c26⟩
    refine w_tsw (pc' := 1684) dL_law_44 (ts_def (x := ((hAI h v0 (v5).toNatClampNeg) &&& (31 : Int32))) (by omega) rfl rfl) ?_
    refine w_iinc (lo' := [some (.ref v0), some (.ref v1), some (.ref v2), some (.ref v3), some (.ref v4), some (.int (v5 + (5 : Int32))), u6, u7]) dL_law_1684 rfl i1_5 rfl ?_
    refine w_goto (pc' := 28) dL_law_1687 rfl rfl ?_
    exact k
theorem bL_law_179 {d : Nat} {h : HP} {Q : Out → HP → Prop} {v0 : Nat} {v1 : Nat} {v2 : Nat} {v3 : Nat} {v4 : Nat} {v5 : Int32} {u6 : Option Value} {u7 : Option Value} {s0 : Int32} (k : (hK h v0 = 19) ∧ ((inA h v0 (v5 + (1 : Int32)) = true) ∧ ((1 < v2) ∧ ((hK h v2 = 12) ∧ (WP d mX12_begin 0 [some (.ref v2), some (.int (hAI h v0 ((v5 + (1 : Int32))).toNatClampNeg)), none] [] h (KK d mL_law mX12_begin 188 [some (.ref v0), some (.ref v1), some (.ref v2), some (.ref v3), some (.ref v4), some (.int v5), some (.int s0), u7] [] Q)))))) : WP (d + 1) mL_law 179 [some (.ref v0), some (.ref v1), some (.ref v2), some (.ref v3), some (.ref v4), some (.int v5), u6, u7] [.int s0] h Q := by
  refine w_istore (lo' := [some (.ref v0), some (.ref v1), some (.ref v2), some (.ref v3), some (.ref v4), some (.int v5), some (.int s0), u7]) dL_law_179 (ltQ rfl) rfl ?_
  refine w_aload_n dL_law_181 rfl ?_
  refine w_aload_n dL_law_182 rfl ?_
  refine w_iload dL_law_183 rfl ?_
  refine w_iconst dL_law_185 i1_1 ?_
  refine w_iadd dL_law_186 ?_
  obtain ⟨g1, k⟩ := k
  obtain ⟨g2, k⟩ := k
  refine w_iaload19 dL_law_187 g1 g2 ?_
  obtain ⟨g3, k⟩ := k
  obtain ⟨g4, k⟩ := k
  exact w_virt (as1 := [.int (hAI h v0 ((v5 + (1 : Int32))).toNatClampNeg), .ref v2]) (as2 := [.ref v2, .int (hAI h v0 ((v5 + (1 : Int32))).toNatClampNeg)]) (rest := []) (lo2 := [some (.ref v2), some (.int (hAI h v0 ((v5 + (1 : Int32))).toNatClampNeg)), none]) dL_law_188 c_13_96 rfl rfl rfl (Nat.le_of_ble_eq_true rfl) (Nat.le_of_ble_eq_true rfl) rfl (Nat.le_of_ble_eq_true rfl) rfl rfl g3 g4 k
theorem bL_law_191 {d : Nat} {h : HP} {Q : Out → HP → Prop} {v0 : Nat} {v1 : Nat} {v2 : Nat} {v3 : Nat} {v4 : Nat} {v5 : Int32} {v6 : Int32} {u7 : Option Value} {s0 : Int32} (k : (1 < v2) ∧ ((hK h v2 = 12) ∧ (WP d mX12_thrown 0 [some (.ref v2)] [] h (KK d mL_law mX12_thrown 194 [some (.ref v0), some (.ref v1), some (.ref v2), some (.ref v3), some (.ref v4), some (.int v5), some (.int v6), some (.int s0)] [] Q)))) : WP (d + 1) mL_law 191 [some (.ref v0), some (.ref v1), some (.ref v2), some (.ref v3), some (.ref v4), some (.int v5), some (.int v6), u7] [.int s0] h Q := by
  refine w_istore (lo' := [some (.ref v0), some (.ref v1), some (.ref v2), some (.ref v3), some (.ref v4), some (.int v5), some (.int v6), some (.int s0)]) dL_law_191 (ltQ rfl) rfl ?_
  refine w_aload_n dL_law_193 rfl ?_
  obtain ⟨g1, k⟩ := k
  obtain ⟨g2, k⟩ := k
  exact w_virt (as1 := [.ref v2]) (as2 := [.ref v2]) (rest := []) (lo2 := [some (.ref v2)]) dL_law_194 c_13_97 rfl rfl rfl (Nat.le_of_ble_eq_true rfl) (Nat.le_of_ble_eq_true rfl) rfl (Nat.le_of_ble_eq_true rfl) rfl rfl g1 g2 k
theorem bL_law_197 {d : Nat} {h : HP} {Q : Out → HP → Prop} {v0 : Nat} {v1 : Nat} {v2 : Nat} {v3 : Nat} {v4 : Nat} {v5 : Int32} {v6 : Int32} {v7 : Int32} {s0 : Int32} (k : ((s0 = v6) → ((¬ v6 = 0) → WP d mL_law 28 [some (.ref v0), some (.ref v1), some (.ref v2), some (.ref v3), some (.ref v4), some (.int (v5 + (5 : Int32))), some (.int v6), some (.int v7)] [] h Q) ∧ ((¬ (¬ v6 = 0)) → (hK h v3 = 23) ∧ ((inA h v3 (0 : Int32) = true) ∧ ((((lg_cmp (hAL h v3 ((0 : Int32)).toNatClampNeg) (Int32.toInt64 v7)) = 0) → WP d mL_law 28 [some (.ref v0), some (.ref v1), some (.ref v2), some (.ref v3), some (.ref v4), some (.int (v5 + (5 : Int32))), some (.int v6), some (.int v7)] [] h Q) ∧ ((¬ ((lg_cmp (hAL h v3 ((0 : Int32)).toNatClampNeg) (Int32.toInt64 v7)) = 0)) → Q (.inl (some (.int (0 : Int32)))) h))))) ∧ ((¬ (s0 = v6)) → Q (.inl (some (.int (0 : Int32)))) h)) : WP d mL_law 197 [some (.ref v0), some (.ref v1), some (.ref v2), some (.ref v3), some (.ref v4), some (.int v5), some (.int v6), some (.int v7)] [.int s0] h Q := by
  refine w_iload dL_law_197 rfl ?_
  refine w_ic_eq (pc' := 204) dL_law_199 rfl rfl ⟨fun c => ?_, fun c => ?_⟩
  · replace k := k.1 c
    refine w_iload dL_law_204 rfl ?_
    refine w_if_ne (pc' := 221) dL_law_206 rfl rfl ⟨fun c => ?_, fun c => ?_⟩
    · replace k := k.1 c
      refine w_goto (pc' := 1684) dL_law_221 rfl rfl ?_
      refine w_iinc (lo' := [some (.ref v0), some (.ref v1), some (.ref v2), some (.ref v3), some (.ref v4), some (.int (v5 + (5 : Int32))), some (.int v6), some (.int v7)]) dL_law_1684 rfl i1_5 rfl ?_
      refine w_goto (pc' := 28) dL_law_1687 rfl rfl ?_
      exact k
    · replace k := k.2 c
      refine w_aload_n dL_law_209 rfl ?_
      refine w_iconst dL_law_210 i1_0 ?_
      obtain ⟨g1, k⟩ := k
      obtain ⟨g2, k⟩ := k
      refine w_laload dL_law_211 g1 g2 ?_
      refine w_iload dL_law_212 rfl ?_
      refine w_i2l dL_law_214 ?_
      refine w_lcmp dL_law_215 ?_
      refine w_if_eq (pc' := 221) dL_law_216 rfl rfl ⟨fun c => ?_, fun c => ?_⟩
      · replace k := k.1 c
        refine w_goto (pc' := 1684) dL_law_221 rfl rfl ?_
        refine w_iinc (lo' := [some (.ref v0), some (.ref v1), some (.ref v2), some (.ref v3), some (.ref v4), some (.int (v5 + (5 : Int32))), some (.int v6), some (.int v7)]) dL_law_1684 rfl i1_5 rfl ?_
        refine w_goto (pc' := 28) dL_law_1687 rfl rfl ?_
        exact k
      · replace k := k.2 c
        refine w_iconst dL_law_219 i1_0 ?_
        exact w_ireturn dL_law_220 rfl k
  · replace k := k.2 c
    refine w_iconst dL_law_202 i1_0 ?_
    exact w_ireturn dL_law_203 rfl k
theorem bL_law_235 {d : Nat} {h : HP} {Q : Out → HP → Prop} {v0 : Nat} {v1 : Nat} {v2 : Nat} {v3 : Nat} {v4 : Nat} {v5 : Int32} {u6 : Option Value} {u7 : Option Value} {s0 : Int32} (k : (hK h v0 = 19) ∧ ((inA h v0 (v5 + (1 : Int32)) = true) ∧ ((1 < v2) ∧ ((hK h v2 = 12) ∧ (WP d mX12_toggle 0 [some (.ref v2), some (.int (hAI h v0 ((v5 + (1 : Int32))).toNatClampNeg)), none] [] h (KK d mL_law mX12_toggle 244 [some (.ref v0), some (.ref v1), some (.ref v2), some (.ref v3), some (.ref v4), some (.int v5), some (.int s0), u7] [] Q)))))) : WP (d + 1) mL_law 235 [some (.ref v0), some (.ref v1), some (.ref v2), some (.ref v3), some (.ref v4), some (.int v5), u6, u7] [.int s0] h Q := by
  refine w_istore (lo' := [some (.ref v0), some (.ref v1), some (.ref v2), some (.ref v3), some (.ref v4), some (.int v5), some (.int s0), u7]) dL_law_235 (ltQ rfl) rfl ?_
  refine w_aload_n dL_law_237 rfl ?_
  refine w_aload_n dL_law_238 rfl ?_
  refine w_iload dL_law_239 rfl ?_
  refine w_iconst dL_law_241 i1_1 ?_
  refine w_iadd dL_law_242 ?_
  obtain ⟨g1, k⟩ := k
  obtain ⟨g2, k⟩ := k
  refine w_iaload19 dL_law_243 g1 g2 ?_
  obtain ⟨g3, k⟩ := k
  obtain ⟨g4, k⟩ := k
  exact w_virt (as1 := [.int (hAI h v0 ((v5 + (1 : Int32))).toNatClampNeg), .ref v2]) (as2 := [.ref v2, .int (hAI h v0 ((v5 + (1 : Int32))).toNatClampNeg)]) (rest := []) (lo2 := [some (.ref v2), some (.int (hAI h v0 ((v5 + (1 : Int32))).toNatClampNeg)), none]) dL_law_244 c_13_103 rfl rfl rfl (Nat.le_of_ble_eq_true rfl) (Nat.le_of_ble_eq_true rfl) rfl (Nat.le_of_ble_eq_true rfl) rfl rfl g3 g4 k
theorem bL_law_247 {d : Nat} {h : HP} {Q : Out → HP → Prop} {v0 : Nat} {v1 : Nat} {v2 : Nat} {v3 : Nat} {v4 : Nat} {v5 : Int32} {v6 : Int32} {u7 : Option Value} {s0 : Int32} (k : (1 < v2) ∧ ((hK h v2 = 12) ∧ (WP d mX12_thrown 0 [some (.ref v2)] [] h (KK d mL_law mX12_thrown 250 [some (.ref v0), some (.ref v1), some (.ref v2), some (.ref v3), some (.ref v4), some (.int v5), some (.int v6), some (.int s0)] [] Q)))) : WP (d + 1) mL_law 247 [some (.ref v0), some (.ref v1), some (.ref v2), some (.ref v3), some (.ref v4), some (.int v5), some (.int v6), u7] [.int s0] h Q := by
  refine w_istore (lo' := [some (.ref v0), some (.ref v1), some (.ref v2), some (.ref v3), some (.ref v4), some (.int v5), some (.int v6), some (.int s0)]) dL_law_247 (ltQ rfl) rfl ?_
  refine w_aload_n dL_law_249 rfl ?_
  obtain ⟨g1, k⟩ := k
  obtain ⟨g2, k⟩ := k
  exact w_virt (as1 := [.ref v2]) (as2 := [.ref v2]) (rest := []) (lo2 := [some (.ref v2)]) dL_law_250 c_13_97 rfl rfl rfl (Nat.le_of_ble_eq_true rfl) (Nat.le_of_ble_eq_true rfl) rfl (Nat.le_of_ble_eq_true rfl) rfl rfl g1 g2 k
theorem bL_law_253 {d : Nat} {h : HP} {Q : Out → HP → Prop} {v0 : Nat} {v1 : Nat} {v2 : Nat} {v3 : Nat} {v4 : Nat} {v5 : Int32} {v6 : Int32} {v7 : Int32} {s0 : Int32} (k : ((s0 = v6) → ((¬ v6 = 0) → WP d mL_law 28 [some (.ref v0), some (.ref v1), some (.ref v2), some (.ref v3), some (.ref v4), some (.int (v5 + (5 : Int32))), some (.int v6), some (.int v7)] [] h Q) ∧ ((¬ (¬ v6 = 0)) → (hK h v3 = 23) ∧ ((inA h v3 (0 : Int32) = true) ∧ (((v7 = 0) → (((lg_cmp (hAL h v3 ((0 : Int32)).toNatClampNeg) (0 : Int64)) = 0) → WP d mL_law 28 [some (.ref v0), some (.ref v1), some (.ref v2), some (.ref v3), some (.ref v4), some (.int (v5 + (5 : Int32))), some (.int v6), some (.int v7)] [] h Q) ∧ ((¬ ((lg_cmp (hAL h v3 ((0 : Int32)).toNatClampNeg) (0 : Int64)) = 0)) → Q (.inl (some (.int (0 : Int32)))) h)) ∧ ((¬ (v7 = 0)) → (((lg_cmp (hAL h v3 ((0 : Int32)).toNatClampNeg) (1 : Int64)) = 0) → WP d mL_law 28 [some (.ref v0), some (.ref v1), some (.ref v2), some (.ref v3), some (.ref v4), some (.int (v5 + (5 : Int32))), some (.int v6), some (.int v7)] [] h Q) ∧ ((¬ ((lg_cmp (hAL h v3 ((0 : Int32)).toNatClampNeg) (1 : Int64)) = 0)) → Q (.inl (some (.int (0 : Int32)))) h)))))) ∧ ((¬ (s0 = v6)) → Q (.inl (some (.int (0 : Int32)))) h)) : WP d mL_law 253 [some (.ref v0), some (.ref v1), some (.ref v2), some (.ref v3), some (.ref v4), some (.int v5), some (.int v6), some (.int v7)] [.int s0] h Q := by
  refine w_iload dL_law_253 rfl ?_
  refine w_ic_eq (pc' := 260) dL_law_255 rfl rfl ⟨fun c => ?_, fun c => ?_⟩
  · replace k := k.1 c
    refine w_iload dL_law_260 rfl ?_
    refine w_if_ne (pc' := 284) dL_law_262 rfl rfl ⟨fun c => ?_, fun c => ?_⟩
    · replace k := k.1 c
      refine w_goto (pc' := 1684) dL_law_284 rfl rfl ?_
      refine w_iinc (lo' := [some (.ref v0), some (.ref v1), some (.ref v2), some (.ref v3), some (.ref v4), some (.int (v5 + (5 : Int32))), some (.int v6), some (.int v7)]) dL_law_1684 rfl i1_5 rfl ?_
      refine w_goto (pc' := 28) dL_law_1687 rfl rfl ?_
      exact k
    · replace k := k.2 c
      refine w_aload_n dL_law_265 rfl ?_
      refine w_iconst dL_law_266 i1_0 ?_
      obtain ⟨g1, k⟩ := k
      obtain ⟨g2, k⟩ := k
      refine w_laload dL_law_267 g1 g2 ?_
      refine w_iload dL_law_268 rfl ?_
      refine w_if_eq (pc' := 277) dL_law_270 rfl rfl ⟨fun c => ?_, fun c => ?_⟩
      · replace k := k.1 c
        refine w_lconst0 dL_law_277 ?_
        refine w_lcmp dL_law_278 ?_
        refine w_if_eq (pc' := 284) dL_law_279 rfl rfl ⟨fun c => ?_, fun c => ?_⟩
        · replace k := k.1 c
          refine w_goto (pc' := 1684) dL_law_284 rfl rfl ?_
          refine w_iinc (lo' := [some (.ref v0), some (.ref v1), some (.ref v2), some (.ref v3), some (.ref v4), some (.int (v5 + (5 : Int32))), some (.int v6), some (.int v7)]) dL_law_1684 rfl i1_5 rfl ?_
          refine w_goto (pc' := 28) dL_law_1687 rfl rfl ?_
          exact k
        · replace k := k.2 c
          refine w_iconst dL_law_282 i1_0 ?_
          exact w_ireturn dL_law_283 rfl k
      · replace k := k.2 c
        refine w_lconst1 dL_law_273 ?_
        refine w_goto (pc' := 278) dL_law_274 rfl rfl ?_
        refine w_lcmp dL_law_278 ?_
        refine w_if_eq (pc' := 284) dL_law_279 rfl rfl ⟨fun c => ?_, fun c => ?_⟩
        · replace k := k.1 c
          refine w_goto (pc' := 1684) dL_law_284 rfl rfl ?_
          refine w_iinc (lo' := [some (.ref v0), some (.ref v1), some (.ref v2), some (.ref v3), some (.ref v4), some (.int (v5 + (5 : Int32))), some (.int v6), some (.int v7)]) dL_law_1684 rfl i1_5 rfl ?_
          refine w_goto (pc' := 28) dL_law_1687 rfl rfl ?_
          exact k
        · replace k := k.2 c
          refine w_iconst dL_law_282 i1_0 ?_
          exact w_ireturn dL_law_283 rfl k
  · replace k := k.2 c
    refine w_iconst dL_law_258 i1_0 ?_
    exact w_ireturn dL_law_259 rfl k
theorem bL_law_304 {d : Nat} {h : HP} {Q : Out → HP → Prop} {v0 : Nat} {v1 : Nat} {v2 : Nat} {v3 : Nat} {v4 : Nat} {v5 : Int32} {u6 : Option Value} {u7 : Option Value} {s0 : Int32} (k : (hK h v0 = 19) ∧ ((inA h v0 (v5 + (1 : Int32)) = true) ∧ ((inA h v0 (v5 + (2 : Int32)) = true) ∧ ((1 < v2) ∧ ((hK h v2 = 12) ∧ (WP d mX12_cut 0 [some (.ref v2), some (.int (hAI h v0 ((v5 + (1 : Int32))).toNatClampNeg)), some (.int (hAI h v0 ((v5 + (2 : Int32))).toNatClampNeg))] [] h (KK d mL_law mX12_cut 319 [some (.ref v0), some (.ref v1), some (.ref v2), some (.ref v3), some (.ref v4), some (.int v5), some (.int s0), u7] [] Q))))))) : WP (d + 1) mL_law 304 [some (.ref v0), some (.ref v1), some (.ref v2), some (.ref v3), some (.ref v4), some (.int v5), u6, u7] [.int s0] h Q := by
  refine w_istore (lo' := [some (.ref v0), some (.ref v1), some (.ref v2), some (.ref v3), some (.ref v4), some (.int v5), some (.int s0), u7]) dL_law_304 (ltQ rfl) rfl ?_
  refine w_aload_n dL_law_306 rfl ?_
  refine w_aload_n dL_law_307 rfl ?_
  refine w_iload dL_law_308 rfl ?_
  refine w_iconst dL_law_310 i1_1 ?_
  refine w_iadd dL_law_311 ?_
  obtain ⟨g1, k⟩ := k
  obtain ⟨g2, k⟩ := k
  refine w_iaload19 dL_law_312 g1 g2 ?_
  refine w_aload_n dL_law_313 rfl ?_
  refine w_iload dL_law_314 rfl ?_
  refine w_iconst dL_law_316 i1_2 ?_
  refine w_iadd dL_law_317 ?_
  obtain ⟨g3, k⟩ := k
  refine w_iaload19 dL_law_318 g1 g3 ?_
  obtain ⟨g4, k⟩ := k
  obtain ⟨g5, k⟩ := k
  exact w_virt (as1 := [.int (hAI h v0 ((v5 + (2 : Int32))).toNatClampNeg), .int (hAI h v0 ((v5 + (1 : Int32))).toNatClampNeg), .ref v2]) (as2 := [.ref v2, .int (hAI h v0 ((v5 + (1 : Int32))).toNatClampNeg), .int (hAI h v0 ((v5 + (2 : Int32))).toNatClampNeg)]) (rest := []) (lo2 := [some (.ref v2), some (.int (hAI h v0 ((v5 + (1 : Int32))).toNatClampNeg)), some (.int (hAI h v0 ((v5 + (2 : Int32))).toNatClampNeg))]) dL_law_319 c_13_107 rfl rfl rfl (Nat.le_of_ble_eq_true rfl) (Nat.le_of_ble_eq_true rfl) rfl (Nat.le_of_ble_eq_true rfl) rfl rfl g4 g5 k
theorem bL_law_322 {d : Nat} {h : HP} {Q : Out → HP → Prop} {v0 : Nat} {v1 : Nat} {v2 : Nat} {v3 : Nat} {v4 : Nat} {v5 : Int32} {v6 : Int32} {u7 : Option Value} {s0 : Int32} (k : (1 < v2) ∧ ((hK h v2 = 12) ∧ (WP d mX12_thrown 0 [some (.ref v2)] [] h (KK d mL_law mX12_thrown 325 [some (.ref v0), some (.ref v1), some (.ref v2), some (.ref v3), some (.ref v4), some (.int v5), some (.int v6), some (.int s0)] [] Q)))) : WP (d + 1) mL_law 322 [some (.ref v0), some (.ref v1), some (.ref v2), some (.ref v3), some (.ref v4), some (.int v5), some (.int v6), u7] [.int s0] h Q := by
  refine w_istore (lo' := [some (.ref v0), some (.ref v1), some (.ref v2), some (.ref v3), some (.ref v4), some (.int v5), some (.int v6), some (.int s0)]) dL_law_322 (ltQ rfl) rfl ?_
  refine w_aload_n dL_law_324 rfl ?_
  obtain ⟨g1, k⟩ := k
  obtain ⟨g2, k⟩ := k
  exact w_virt (as1 := [.ref v2]) (as2 := [.ref v2]) (rest := []) (lo2 := [some (.ref v2)]) dL_law_325 c_13_97 rfl rfl rfl (Nat.le_of_ble_eq_true rfl) (Nat.le_of_ble_eq_true rfl) rfl (Nat.le_of_ble_eq_true rfl) rfl rfl g1 g2 k
theorem bL_law_328 {d : Nat} {h : HP} {Q : Out → HP → Prop} {v0 : Nat} {v1 : Nat} {v2 : Nat} {v3 : Nat} {v4 : Nat} {v5 : Int32} {v6 : Int32} {v7 : Int32} {s0 : Int32} (k : ((s0 = v6) → ((¬ v6 = 0) → WP d mL_law 28 [some (.ref v0), some (.ref v1), some (.ref v2), some (.ref v3), some (.ref v4), some (.int (v5 + (5 : Int32))), some (.int v6), some (.int v7)] [] h Q) ∧ ((¬ (¬ v6 = 0)) → (hK h v3 = 23) ∧ ((inA h v3 (0 : Int32) = true) ∧ (((v7 = 0) → (((lg_cmp (hAL h v3 ((0 : Int32)).toNatClampNeg) (0 : Int64)) = 0) → WP d mL_law 28 [some (.ref v0), some (.ref v1), some (.ref v2), some (.ref v3), some (.ref v4), some (.int (v5 + (5 : Int32))), some (.int v6), some (.int v7)] [] h Q) ∧ ((¬ ((lg_cmp (hAL h v3 ((0 : Int32)).toNatClampNeg) (0 : Int64)) = 0)) → Q (.inl (some (.int (0 : Int32)))) h)) ∧ ((¬ (v7 = 0)) → (((lg_cmp (hAL h v3 ((0 : Int32)).toNatClampNeg) (1 : Int64)) = 0) → WP d mL_law 28 [some (.ref v0), some (.ref v1), some (.ref v2), some (.ref v3), some (.ref v4), some (.int (v5 + (5 : Int32))), some (.int v6), some (.int v7)] [] h Q) ∧ ((¬ ((lg_cmp (hAL h v3 ((0 : Int32)).toNatClampNeg) (1 : Int64)) = 0)) → Q (.inl (some (.int (0 : Int32)))) h)))))) ∧ ((¬ (s0 = v6)) → Q (.inl (some (.int (0 : Int32)))) h)) : WP d mL_law 328 [some (.ref v0), some (.ref v1), some (.ref v2), some (.ref v3), some (.ref v4), some (.int v5), some (.int v6), some (.int v7)] [.int s0] h Q := by
  refine w_iload dL_law_328 rfl ?_
  refine w_ic_eq (pc' := 335) dL_law_330 rfl rfl ⟨fun c => ?_, fun c => ?_⟩
  · replace k := k.1 c
    refine w_iload dL_law_335 rfl ?_
    refine w_if_ne (pc' := 359) dL_law_337 rfl rfl ⟨fun c => ?_, fun c => ?_⟩
    · replace k := k.1 c
      refine w_goto (pc' := 1684) dL_law_359 rfl rfl ?_
      refine w_iinc (lo' := [some (.ref v0), some (.ref v1), some (.ref v2), some (.ref v3), some (.ref v4), some (.int (v5 + (5 : Int32))), some (.int v6), some (.int v7)]) dL_law_1684 rfl i1_5 rfl ?_
      refine w_goto (pc' := 28) dL_law_1687 rfl rfl ?_
      exact k
    · replace k := k.2 c
      refine w_aload_n dL_law_340 rfl ?_
      refine w_iconst dL_law_341 i1_0 ?_
      obtain ⟨g1, k⟩ := k
      obtain ⟨g2, k⟩ := k
      refine w_laload dL_law_342 g1 g2 ?_
      refine w_iload dL_law_343 rfl ?_
      refine w_if_eq (pc' := 352) dL_law_345 rfl rfl ⟨fun c => ?_, fun c => ?_⟩
      · replace k := k.1 c
        refine w_lconst0 dL_law_352 ?_
        refine w_lcmp dL_law_353 ?_
        refine w_if_eq (pc' := 359) dL_law_354 rfl rfl ⟨fun c => ?_, fun c => ?_⟩
        · replace k := k.1 c
          refine w_goto (pc' := 1684) dL_law_359 rfl rfl ?_
          refine w_iinc (lo' := [some (.ref v0), some (.ref v1), some (.ref v2), some (.ref v3), some (.ref v4), some (.int (v5 + (5 : Int32))), some (.int v6), some (.int v7)]) dL_law_1684 rfl i1_5 rfl ?_
          refine w_goto (pc' := 28) dL_law_1687 rfl rfl ?_
          exact k
        · replace k := k.2 c
          refine w_iconst dL_law_357 i1_0 ?_
          exact w_ireturn dL_law_358 rfl k
      · replace k := k.2 c
        refine w_lconst1 dL_law_348 ?_
        refine w_goto (pc' := 353) dL_law_349 rfl rfl ?_
        refine w_lcmp dL_law_353 ?_
        refine w_if_eq (pc' := 359) dL_law_354 rfl rfl ⟨fun c => ?_, fun c => ?_⟩
        · replace k := k.1 c
          refine w_goto (pc' := 1684) dL_law_359 rfl rfl ?_
          refine w_iinc (lo' := [some (.ref v0), some (.ref v1), some (.ref v2), some (.ref v3), some (.ref v4), some (.int (v5 + (5 : Int32))), some (.int v6), some (.int v7)]) dL_law_1684 rfl i1_5 rfl ?_
          refine w_goto (pc' := 28) dL_law_1687 rfl rfl ?_
          exact k
        · replace k := k.2 c
          refine w_iconst dL_law_357 i1_0 ?_
          exact w_ireturn dL_law_358 rfl k
  · replace k := k.2 c
    refine w_iconst dL_law_333 i1_0 ?_
    exact w_ireturn dL_law_334 rfl k
theorem bL_law_380 {d : Nat} {h : HP} {Q : Out → HP → Prop} {v0 : Nat} {v1 : Nat} {v2 : Nat} {v3 : Nat} {v4 : Nat} {v5 : Int32} {u6 : Option Value} {u7 : Option Value} {s0 : Int32} (k : (hK h v0 = 19) ∧ ((inA h v0 (v5 + (1 : Int32)) = true) ∧ ((inA h v0 (v5 + (2 : Int32)) = true) ∧ ((1 < v2) ∧ ((hK h v2 = 12) ∧ (WP d mX12_rate 0 [some (.ref v2), some (.int (hAI h v0 ((v5 + (1 : Int32))).toNatClampNeg)), some (.int (hAI h v0 ((v5 + (2 : Int32))).toNatClampNeg))] [] h (KK d mL_law mX12_rate 395 [some (.ref v0), some (.ref v1), some (.ref v2), some (.ref v3), some (.ref v4), some (.int v5), some (.int s0), u7] [] Q))))))) : WP (d + 1) mL_law 380 [some (.ref v0), some (.ref v1), some (.ref v2), some (.ref v3), some (.ref v4), some (.int v5), u6, u7] [.int s0] h Q := by
  refine w_istore (lo' := [some (.ref v0), some (.ref v1), some (.ref v2), some (.ref v3), some (.ref v4), some (.int v5), some (.int s0), u7]) dL_law_380 (ltQ rfl) rfl ?_
  refine w_aload_n dL_law_382 rfl ?_
  refine w_aload_n dL_law_383 rfl ?_
  refine w_iload dL_law_384 rfl ?_
  refine w_iconst dL_law_386 i1_1 ?_
  refine w_iadd dL_law_387 ?_
  obtain ⟨g1, k⟩ := k
  obtain ⟨g2, k⟩ := k
  refine w_iaload19 dL_law_388 g1 g2 ?_
  refine w_aload_n dL_law_389 rfl ?_
  refine w_iload dL_law_390 rfl ?_
  refine w_iconst dL_law_392 i1_2 ?_
  refine w_iadd dL_law_393 ?_
  obtain ⟨g3, k⟩ := k
  refine w_iaload19 dL_law_394 g1 g3 ?_
  obtain ⟨g4, k⟩ := k
  obtain ⟨g5, k⟩ := k
  exact w_virt (as1 := [.int (hAI h v0 ((v5 + (2 : Int32))).toNatClampNeg), .int (hAI h v0 ((v5 + (1 : Int32))).toNatClampNeg), .ref v2]) (as2 := [.ref v2, .int (hAI h v0 ((v5 + (1 : Int32))).toNatClampNeg), .int (hAI h v0 ((v5 + (2 : Int32))).toNatClampNeg)]) (rest := []) (lo2 := [some (.ref v2), some (.int (hAI h v0 ((v5 + (1 : Int32))).toNatClampNeg)), some (.int (hAI h v0 ((v5 + (2 : Int32))).toNatClampNeg))]) dL_law_395 c_13_111 rfl rfl rfl (Nat.le_of_ble_eq_true rfl) (Nat.le_of_ble_eq_true rfl) rfl (Nat.le_of_ble_eq_true rfl) rfl rfl g4 g5 k
theorem bL_law_398 {d : Nat} {h : HP} {Q : Out → HP → Prop} {v0 : Nat} {v1 : Nat} {v2 : Nat} {v3 : Nat} {v4 : Nat} {v5 : Int32} {v6 : Int32} {u7 : Option Value} {s0 : UInt32} (k : (1 < v2) ∧ ((hK h v2 = 12) ∧ (WP d mX12_thrown 0 [some (.ref v2)] [] h (KK d mL_law mX12_thrown 401 [some (.ref v0), some (.ref v1), some (.ref v2), some (.ref v3), some (.ref v4), some (.int v5), some (.int v6), some (.float s0)] [] Q)))) : WP (d + 1) mL_law 398 [some (.ref v0), some (.ref v1), some (.ref v2), some (.ref v3), some (.ref v4), some (.int v5), some (.int v6), u7] [.float s0] h Q := by
  refine w_fstore (lo' := [some (.ref v0), some (.ref v1), some (.ref v2), some (.ref v3), some (.ref v4), some (.int v5), some (.int v6), some (.float s0)]) dL_law_398 (ltQ rfl) rfl ?_
  refine w_aload_n dL_law_400 rfl ?_
  obtain ⟨g1, k⟩ := k
  obtain ⟨g2, k⟩ := k
  exact w_virt (as1 := [.ref v2]) (as2 := [.ref v2]) (rest := []) (lo2 := [some (.ref v2)]) dL_law_401 c_13_97 rfl rfl rfl (Nat.le_of_ble_eq_true rfl) (Nat.le_of_ble_eq_true rfl) rfl (Nat.le_of_ble_eq_true rfl) rfl rfl g1 g2 k
theorem bL_law_404 {d : Nat} {h : HP} {Q : Out → HP → Prop} {v0 : Nat} {v1 : Nat} {v2 : Nat} {v3 : Nat} {v4 : Nat} {v5 : Int32} {v6 : Int32} {v7 : UInt32} {s0 : Int32} (k : ((s0 = v6) → ((¬ v6 = 0) → WP d mL_law 28 [some (.ref v0), some (.ref v1), some (.ref v2), some (.ref v3), some (.ref v4), some (.int (v5 + (5 : Int32))), some (.int v6), some (.float v7)] [] h Q) ∧ ((¬ (¬ v6 = 0)) → (hK h v4 = 24) ∧ ((inA h v4 (0 : Int32) = true) ∧ ((nn64 (FP.f2d v7) = true) ∧ ((((Op.cmpValue (FP.dcmp (hAD h v4 ((0 : Int32)).toNatClampNeg) (FP.f2d v7)) .l) = 0) → WP d mL_law 28 [some (.ref v0), some (.ref v1), some (.ref v2), some (.ref v3), some (.ref v4), some (.int (v5 + (5 : Int32))), some (.int v6), some (.float v7)] [] h Q) ∧ ((¬ ((Op.cmpValue (FP.dcmp (hAD h v4 ((0 : Int32)).toNatClampNeg) (FP.f2d v7)) .l) = 0)) → (((Op.cmpValue (FP.dcmp (hAD h v4 ((0 : Int32)).toNatClampNeg) (hAD h v4 ((0 : Int32)).toNatClampNeg)) .l) = 0) → Q (.inl (some (.int (0 : Int32)))) h) ∧ ((¬ ((Op.cmpValue (FP.dcmp (hAD h v4 ((0 : Int32)).toNatClampNeg) (hAD h v4 ((0 : Int32)).toNatClampNeg)) .l) = 0)) → ((¬ (Op.cmpValue (FP.fcmp v7 v7) .l) = 0) → WP d mL_law 28 [some (.ref v0), some (.ref v1), some (.ref v2), some (.ref v3), some (.ref v4), some (.int (v5 + (5 : Int32))), some (.int v6), some (.float v7)] [] h Q) ∧ ((¬ (¬ (Op.cmpValue (FP.fcmp v7 v7) .l) = 0)) → Q (.inl (some (.int (0 : Int32)))) h)))))))) ∧ ((¬ (s0 = v6)) → Q (.inl (some (.int (0 : Int32)))) h)) : WP d mL_law 404 [some (.ref v0), some (.ref v1), some (.ref v2), some (.ref v3), some (.ref v4), some (.int v5), some (.int v6), some (.float v7)] [.int s0] h Q := by
  refine w_iload dL_law_404 rfl ?_
  refine w_ic_eq (pc' := 411) dL_law_406 rfl rfl ⟨fun c => ?_, fun c => ?_⟩
  · replace k := k.1 c
    refine w_iload dL_law_411 rfl ?_
    refine w_if_ne (pc' := 449) dL_law_413 rfl rfl ⟨fun c => ?_, fun c => ?_⟩
    · replace k := k.1 c
      refine w_goto (pc' := 1684) dL_law_449 rfl rfl ?_
      refine w_iinc (lo' := [some (.ref v0), some (.ref v1), some (.ref v2), some (.ref v3), some (.ref v4), some (.int (v5 + (5 : Int32))), some (.int v6), some (.float v7)]) dL_law_1684 rfl i1_5 rfl ?_
      refine w_goto (pc' := 28) dL_law_1687 rfl rfl ?_
      exact k
    · replace k := k.2 c
      refine w_aload dL_law_416 rfl ?_
      refine w_iconst dL_law_418 i1_0 ?_
      obtain ⟨g1, k⟩ := k
      obtain ⟨g2, k⟩ := k
      refine w_daload dL_law_419 g1 g2 ?_
      refine w_fload dL_law_420 rfl ?_
      obtain ⟨g3, k⟩ := k
      refine w_f2d dL_law_422 g3 ?_
      refine w_dcmp dL_law_423 ?_
      refine w_if_eq (pc' := 449) dL_law_424 rfl rfl ⟨fun c => ?_, fun c => ?_⟩
      · replace k := k.1 c
        refine w_goto (pc' := 1684) dL_law_449 rfl rfl ?_
        refine w_iinc (lo' := [some (.ref v0), some (.ref v1), some (.ref v2), some (.ref v3), some (.ref v4), some (.int (v5 + (5 : Int32))), some (.int v6), some (.float v7)]) dL_law_1684 rfl i1_5 rfl ?_
        refine w_goto (pc' := 28) dL_law_1687 rfl rfl ?_
        exact k
      · replace k := k.2 c
        refine w_aload dL_law_427 rfl ?_
        refine w_iconst dL_law_429 i1_0 ?_
        refine w_daload dL_law_430 g1 g2 ?_
        refine w_aload dL_law_431 rfl ?_
        refine w_iconst dL_law_433 i1_0 ?_
        refine w_daload dL_law_434 g1 g2 ?_
        refine w_dcmp dL_law_435 ?_
        refine w_if_eq (pc' := 447) dL_law_436 rfl rfl ⟨fun c => ?_, fun c => ?_⟩
        · replace k := k.1 c
          refine w_iconst dL_law_447 i1_0 ?_
          exact w_ireturn dL_law_448 rfl k
        · replace k := k.2 c
          refine w_fload dL_law_439 rfl ?_
          refine w_fload dL_law_441 rfl ?_
          refine w_fcmp dL_law_443 ?_
          refine w_if_ne (pc' := 449) dL_law_444 rfl rfl ⟨fun c => ?_, fun c => ?_⟩
          · replace k := k.1 c
            refine w_goto (pc' := 1684) dL_law_449 rfl rfl ?_
            refine w_iinc (lo' := [some (.ref v0), some (.ref v1), some (.ref v2), some (.ref v3), some (.ref v4), some (.int (v5 + (5 : Int32))), some (.int v6), some (.float v7)]) dL_law_1684 rfl i1_5 rfl ?_
            refine w_goto (pc' := 28) dL_law_1687 rfl rfl ?_
            exact k
          · replace k := k.2 c
            refine w_iconst dL_law_447 i1_0 ?_
            exact w_ireturn dL_law_448 rfl k
  · replace k := k.2 c
    refine w_iconst dL_law_409 i1_0 ?_
    exact w_ireturn dL_law_410 rfl k
theorem bL_law_468 {d : Nat} {h : HP} {Q : Out → HP → Prop} {v0 : Nat} {v1 : Nat} {v2 : Nat} {v3 : Nat} {v4 : Nat} {v5 : Int32} {u6 : Option Value} {u7 : Option Value} {s0 : Int32} (k : (hK h v0 = 19) ∧ ((inA h v0 (v5 + (1 : Int32)) = true) ∧ ((inA h v0 (v5 + (2 : Int32)) = true) ∧ ((1 < v2) ∧ ((hK h v2 = 12) ∧ (WP d mX12_spans 0 [some (.ref v2), some (.int (hAI h v0 ((v5 + (1 : Int32))).toNatClampNeg)), some (.int (hAI h v0 ((v5 + (2 : Int32))).toNatClampNeg))] [] h (KK d mL_law mX12_spans 483 [some (.ref v0), some (.ref v1), some (.ref v2), some (.ref v3), some (.ref v4), some (.int v5), some (.int s0), u7] [] Q))))))) : WP (d + 1) mL_law 468 [some (.ref v0), some (.ref v1), some (.ref v2), some (.ref v3), some (.ref v4), some (.int v5), u6, u7] [.int s0] h Q := by
  refine w_istore (lo' := [some (.ref v0), some (.ref v1), some (.ref v2), some (.ref v3), some (.ref v4), some (.int v5), some (.int s0), u7]) dL_law_468 (ltQ rfl) rfl ?_
  refine w_aload_n dL_law_470 rfl ?_
  refine w_aload_n dL_law_471 rfl ?_
  refine w_iload dL_law_472 rfl ?_
  refine w_iconst dL_law_474 i1_1 ?_
  refine w_iadd dL_law_475 ?_
  obtain ⟨g1, k⟩ := k
  obtain ⟨g2, k⟩ := k
  refine w_iaload19 dL_law_476 g1 g2 ?_
  refine w_aload_n dL_law_477 rfl ?_
  refine w_iload dL_law_478 rfl ?_
  refine w_iconst dL_law_480 i1_2 ?_
  refine w_iadd dL_law_481 ?_
  obtain ⟨g3, k⟩ := k
  refine w_iaload19 dL_law_482 g1 g3 ?_
  obtain ⟨g4, k⟩ := k
  obtain ⟨g5, k⟩ := k
  exact w_virt (as1 := [.int (hAI h v0 ((v5 + (2 : Int32))).toNatClampNeg), .int (hAI h v0 ((v5 + (1 : Int32))).toNatClampNeg), .ref v2]) (as2 := [.ref v2, .int (hAI h v0 ((v5 + (1 : Int32))).toNatClampNeg), .int (hAI h v0 ((v5 + (2 : Int32))).toNatClampNeg)]) (rest := []) (lo2 := [some (.ref v2), some (.int (hAI h v0 ((v5 + (1 : Int32))).toNatClampNeg)), some (.int (hAI h v0 ((v5 + (2 : Int32))).toNatClampNeg))]) dL_law_483 c_13_115 rfl rfl rfl (Nat.le_of_ble_eq_true rfl) (Nat.le_of_ble_eq_true rfl) rfl (Nat.le_of_ble_eq_true rfl) rfl rfl g4 g5 k
theorem bL_law_486 {d : Nat} {h : HP} {Q : Out → HP → Prop} {v0 : Nat} {v1 : Nat} {v2 : Nat} {v3 : Nat} {v4 : Nat} {v5 : Int32} {v6 : Int32} {u7 : Option Value} (k : (1 < v2) ∧ ((hK h v2 = 12) ∧ (WP d mX12_thrown 0 [some (.ref v2)] [] h (KK d mL_law mX12_thrown 487 [some (.ref v0), some (.ref v1), some (.ref v2), some (.ref v3), some (.ref v4), some (.int v5), some (.int v6), u7] [] Q)))) : WP (d + 1) mL_law 486 [some (.ref v0), some (.ref v1), some (.ref v2), some (.ref v3), some (.ref v4), some (.int v5), some (.int v6), u7] [] h Q := by
  refine w_aload_n dL_law_486 rfl ?_
  obtain ⟨g1, k⟩ := k
  obtain ⟨g2, k⟩ := k
  exact w_virt (as1 := [.ref v2]) (as2 := [.ref v2]) (rest := []) (lo2 := [some (.ref v2)]) dL_law_487 c_13_97 rfl rfl rfl (Nat.le_of_ble_eq_true rfl) (Nat.le_of_ble_eq_true rfl) rfl (Nat.le_of_ble_eq_true rfl) rfl rfl g1 g2 k
theorem bL_law_490 {d : Nat} {h : HP} {Q : Out → HP → Prop} {v0 : Nat} {v1 : Nat} {v2 : Nat} {v3 : Nat} {v4 : Nat} {v5 : Int32} {v6 : Int32} {u7 : Option Value} {s0 : Int32} (k : ((s0 = v6) → WP d mL_law 28 [some (.ref v0), some (.ref v1), some (.ref v2), some (.ref v3), some (.ref v4), some (.int (v5 + (5 : Int32))), some (.int v6), u7] [] h Q) ∧ ((¬ (s0 = v6)) → Q (.inl (some (.int (0 : Int32)))) h)) : WP d mL_law 490 [some (.ref v0), some (.ref v1), some (.ref v2), some (.ref v3), some (.ref v4), some (.int v5), some (.int v6), u7] [.int s0] h Q := by
  refine w_iload dL_law_490 rfl ?_
  refine w_ic_eq (pc' := 497) dL_law_492 rfl rfl ⟨fun c => ?_, fun c => ?_⟩
  · replace k := k.1 c
    refine w_goto (pc' := 1684) dL_law_497 rfl rfl ?_
    refine w_iinc (lo' := [some (.ref v0), some (.ref v1), some (.ref v2), some (.ref v3), some (.ref v4), some (.int (v5 + (5 : Int32))), some (.int v6), u7]) dL_law_1684 rfl i1_5 rfl ?_
    refine w_goto (pc' := 28) dL_law_1687 rfl rfl ?_
    exact k
  · replace k := k.2 c
    refine w_iconst dL_law_495 i1_0 ?_
    exact w_ireturn dL_law_496 rfl k
theorem bL_law_512 {d : Nat} {h : HP} {Q : Out → HP → Prop} {v0 : Nat} {v1 : Nat} {v2 : Nat} {v3 : Nat} {v4 : Nat} {v5 : Int32} {u6 : Option Value} {u7 : Option Value} {s0 : Int32} (k : (hK h v0 = 19) ∧ ((inA h v0 (v5 + (1 : Int32)) = true) ∧ ((1 < v2) ∧ ((hK h v2 = 12) ∧ (WP d mX12_pass 0 [some (.ref v2), some (.int (hAI h v0 ((v5 + (1 : Int32))).toNatClampNeg)), none, none] [] h (KK d mL_law mX12_pass 521 [some (.ref v0), some (.ref v1), some (.ref v2), some (.ref v3), some (.ref v4), some (.int v5), some (.int s0), u7] [] Q)))))) : WP (d + 1) mL_law 512 [some (.ref v0), some (.ref v1), some (.ref v2), some (.ref v3), some (.ref v4), some (.int v5), u6, u7] [.int s0] h Q := by
  refine w_istore (lo' := [some (.ref v0), some (.ref v1), some (.ref v2), some (.ref v3), some (.ref v4), some (.int v5), some (.int s0), u7]) dL_law_512 (ltQ rfl) rfl ?_
  refine w_aload_n dL_law_514 rfl ?_
  refine w_aload_n dL_law_515 rfl ?_
  refine w_iload dL_law_516 rfl ?_
  refine w_iconst dL_law_518 i1_1 ?_
  refine w_iadd dL_law_519 ?_
  obtain ⟨g1, k⟩ := k
  obtain ⟨g2, k⟩ := k
  refine w_iaload19 dL_law_520 g1 g2 ?_
  obtain ⟨g3, k⟩ := k
  obtain ⟨g4, k⟩ := k
  exact w_virt (as1 := [.int (hAI h v0 ((v5 + (1 : Int32))).toNatClampNeg), .ref v2]) (as2 := [.ref v2, .int (hAI h v0 ((v5 + (1 : Int32))).toNatClampNeg)]) (rest := []) (lo2 := [some (.ref v2), some (.int (hAI h v0 ((v5 + (1 : Int32))).toNatClampNeg)), none, none]) dL_law_521 c_13_119 rfl rfl rfl (Nat.le_of_ble_eq_true rfl) (Nat.le_of_ble_eq_true rfl) rfl (Nat.le_of_ble_eq_true rfl) rfl rfl g3 g4 k
theorem bL_law_524 {d : Nat} {h : HP} {Q : Out → HP → Prop} {v0 : Nat} {v1 : Nat} {v2 : Nat} {v3 : Nat} {v4 : Nat} {v5 : Int32} {v6 : Int32} {u7 : Option Value} {s0 : UInt32} (k : (1 < v2) ∧ ((hK h v2 = 12) ∧ (WP d mX12_thrown 0 [some (.ref v2)] [] h (KK d mL_law mX12_thrown 527 [some (.ref v0), some (.ref v1), some (.ref v2), some (.ref v3), some (.ref v4), some (.int v5), some (.int v6), some (.float s0)] [] Q)))) : WP (d + 1) mL_law 524 [some (.ref v0), some (.ref v1), some (.ref v2), some (.ref v3), some (.ref v4), some (.int v5), some (.int v6), u7] [.float s0] h Q := by
  refine w_fstore (lo' := [some (.ref v0), some (.ref v1), some (.ref v2), some (.ref v3), some (.ref v4), some (.int v5), some (.int v6), some (.float s0)]) dL_law_524 (ltQ rfl) rfl ?_
  refine w_aload_n dL_law_526 rfl ?_
  obtain ⟨g1, k⟩ := k
  obtain ⟨g2, k⟩ := k
  exact w_virt (as1 := [.ref v2]) (as2 := [.ref v2]) (rest := []) (lo2 := [some (.ref v2)]) dL_law_527 c_13_97 rfl rfl rfl (Nat.le_of_ble_eq_true rfl) (Nat.le_of_ble_eq_true rfl) rfl (Nat.le_of_ble_eq_true rfl) rfl rfl g1 g2 k
theorem bL_law_530 {d : Nat} {h : HP} {Q : Out → HP → Prop} {v0 : Nat} {v1 : Nat} {v2 : Nat} {v3 : Nat} {v4 : Nat} {v5 : Int32} {v6 : Int32} {v7 : UInt32} {s0 : Int32} (k : ((s0 = v6) → ((¬ v6 = 0) → WP d mL_law 28 [some (.ref v0), some (.ref v1), some (.ref v2), some (.ref v3), some (.ref v4), some (.int (v5 + (5 : Int32))), some (.int v6), some (.float v7)] [] h Q) ∧ ((¬ (¬ v6 = 0)) → (hK h v4 = 24) ∧ ((inA h v4 (0 : Int32) = true) ∧ ((nn64 (FP.f2d v7) = true) ∧ ((((Op.cmpValue (FP.dcmp (hAD h v4 ((0 : Int32)).toNatClampNeg) (FP.f2d v7)) .l) = 0) → WP d mL_law 28 [some (.ref v0), some (.ref v1), some (.ref v2), some (.ref v3), some (.ref v4), some (.int (v5 + (5 : Int32))), some (.int v6), some (.float v7)] [] h Q) ∧ ((¬ ((Op.cmpValue (FP.dcmp (hAD h v4 ((0 : Int32)).toNatClampNeg) (FP.f2d v7)) .l) = 0)) → (((Op.cmpValue (FP.dcmp (hAD h v4 ((0 : Int32)).toNatClampNeg) (hAD h v4 ((0 : Int32)).toNatClampNeg)) .l) = 0) → Q (.inl (some (.int (0 : Int32)))) h) ∧ ((¬ ((Op.cmpValue (FP.dcmp (hAD h v4 ((0 : Int32)).toNatClampNeg) (hAD h v4 ((0 : Int32)).toNatClampNeg)) .l) = 0)) → ((¬ (Op.cmpValue (FP.fcmp v7 v7) .l) = 0) → WP d mL_law 28 [some (.ref v0), some (.ref v1), some (.ref v2), some (.ref v3), some (.ref v4), some (.int (v5 + (5 : Int32))), some (.int v6), some (.float v7)] [] h Q) ∧ ((¬ (¬ (Op.cmpValue (FP.fcmp v7 v7) .l) = 0)) → Q (.inl (some (.int (0 : Int32)))) h)))))))) ∧ ((¬ (s0 = v6)) → Q (.inl (some (.int (0 : Int32)))) h)) : WP d mL_law 530 [some (.ref v0), some (.ref v1), some (.ref v2), some (.ref v3), some (.ref v4), some (.int v5), some (.int v6), some (.float v7)] [.int s0] h Q := by
  refine w_iload dL_law_530 rfl ?_
  refine w_ic_eq (pc' := 537) dL_law_532 rfl rfl ⟨fun c => ?_, fun c => ?_⟩
  · replace k := k.1 c
    refine w_iload dL_law_537 rfl ?_
    refine w_if_ne (pc' := 575) dL_law_539 rfl rfl ⟨fun c => ?_, fun c => ?_⟩
    · replace k := k.1 c
      refine w_goto (pc' := 1684) dL_law_575 rfl rfl ?_
      refine w_iinc (lo' := [some (.ref v0), some (.ref v1), some (.ref v2), some (.ref v3), some (.ref v4), some (.int (v5 + (5 : Int32))), some (.int v6), some (.float v7)]) dL_law_1684 rfl i1_5 rfl ?_
      refine w_goto (pc' := 28) dL_law_1687 rfl rfl ?_
      exact k
    · replace k := k.2 c
      refine w_aload dL_law_542 rfl ?_
      refine w_iconst dL_law_544 i1_0 ?_
      obtain ⟨g1, k⟩ := k
      obtain ⟨g2, k⟩ := k
      refine w_daload dL_law_545 g1 g2 ?_
      refine w_fload dL_law_546 rfl ?_
      obtain ⟨g3, k⟩ := k
      refine w_f2d dL_law_548 g3 ?_
      refine w_dcmp dL_law_549 ?_
      refine w_if_eq (pc' := 575) dL_law_550 rfl rfl ⟨fun c => ?_, fun c => ?_⟩
      · replace k := k.1 c
        refine w_goto (pc' := 1684) dL_law_575 rfl rfl ?_
        refine w_iinc (lo' := [some (.ref v0), some (.ref v1), some (.ref v2), some (.ref v3), some (.ref v4), some (.int (v5 + (5 : Int32))), some (.int v6), some (.float v7)]) dL_law_1684 rfl i1_5 rfl ?_
        refine w_goto (pc' := 28) dL_law_1687 rfl rfl ?_
        exact k
      · replace k := k.2 c
        refine w_aload dL_law_553 rfl ?_
        refine w_iconst dL_law_555 i1_0 ?_
        refine w_daload dL_law_556 g1 g2 ?_
        refine w_aload dL_law_557 rfl ?_
        refine w_iconst dL_law_559 i1_0 ?_
        refine w_daload dL_law_560 g1 g2 ?_
        refine w_dcmp dL_law_561 ?_
        refine w_if_eq (pc' := 573) dL_law_562 rfl rfl ⟨fun c => ?_, fun c => ?_⟩
        · replace k := k.1 c
          refine w_iconst dL_law_573 i1_0 ?_
          exact w_ireturn dL_law_574 rfl k
        · replace k := k.2 c
          refine w_fload dL_law_565 rfl ?_
          refine w_fload dL_law_567 rfl ?_
          refine w_fcmp dL_law_569 ?_
          refine w_if_ne (pc' := 575) dL_law_570 rfl rfl ⟨fun c => ?_, fun c => ?_⟩
          · replace k := k.1 c
            refine w_goto (pc' := 1684) dL_law_575 rfl rfl ?_
            refine w_iinc (lo' := [some (.ref v0), some (.ref v1), some (.ref v2), some (.ref v3), some (.ref v4), some (.int (v5 + (5 : Int32))), some (.int v6), some (.float v7)]) dL_law_1684 rfl i1_5 rfl ?_
            refine w_goto (pc' := 28) dL_law_1687 rfl rfl ?_
            exact k
          · replace k := k.2 c
            refine w_iconst dL_law_573 i1_0 ?_
            exact w_ireturn dL_law_574 rfl k
  · replace k := k.2 c
    refine w_iconst dL_law_535 i1_0 ?_
    exact w_ireturn dL_law_536 rfl k
theorem bL_law_589 {d : Nat} {h : HP} {Q : Out → HP → Prop} {v0 : Nat} {v1 : Nat} {v2 : Nat} {v3 : Nat} {v4 : Nat} {v5 : Int32} {u6 : Option Value} {u7 : Option Value} {s0 : Int32} (k : (hK h v0 = 19) ∧ ((inA h v0 (v5 + (1 : Int32)) = true) ∧ ((1 < v2) ∧ ((hK h v2 = 12) ∧ (WP d mX12_deliver 0 [some (.ref v2), some (.int (hAI h v0 ((v5 + (1 : Int32))).toNatClampNeg)), none, none, none, none, none] [] h (KK d mL_law mX12_deliver 598 [some (.ref v0), some (.ref v1), some (.ref v2), some (.ref v3), some (.ref v4), some (.int v5), some (.int s0), u7] [] Q)))))) : WP (d + 1) mL_law 589 [some (.ref v0), some (.ref v1), some (.ref v2), some (.ref v3), some (.ref v4), some (.int v5), u6, u7] [.int s0] h Q := by
  refine w_istore (lo' := [some (.ref v0), some (.ref v1), some (.ref v2), some (.ref v3), some (.ref v4), some (.int v5), some (.int s0), u7]) dL_law_589 (ltQ rfl) rfl ?_
  refine w_aload_n dL_law_591 rfl ?_
  refine w_aload_n dL_law_592 rfl ?_
  refine w_iload dL_law_593 rfl ?_
  refine w_iconst dL_law_595 i1_1 ?_
  refine w_iadd dL_law_596 ?_
  obtain ⟨g1, k⟩ := k
  obtain ⟨g2, k⟩ := k
  refine w_iaload19 dL_law_597 g1 g2 ?_
  obtain ⟨g3, k⟩ := k
  obtain ⟨g4, k⟩ := k
  exact w_virt (as1 := [.int (hAI h v0 ((v5 + (1 : Int32))).toNatClampNeg), .ref v2]) (as2 := [.ref v2, .int (hAI h v0 ((v5 + (1 : Int32))).toNatClampNeg)]) (rest := []) (lo2 := [some (.ref v2), some (.int (hAI h v0 ((v5 + (1 : Int32))).toNatClampNeg)), none, none, none, none, none]) dL_law_598 c_13_122 rfl rfl rfl (Nat.le_of_ble_eq_true rfl) (Nat.le_of_ble_eq_true rfl) rfl (Nat.le_of_ble_eq_true rfl) rfl rfl g3 g4 k
theorem bL_law_601 {d : Nat} {h : HP} {Q : Out → HP → Prop} {v0 : Nat} {v1 : Nat} {v2 : Nat} {v3 : Nat} {v4 : Nat} {v5 : Int32} {v6 : Int32} {u7 : Option Value} {s0 : Int32} (k : (1 < v2) ∧ ((hK h v2 = 12) ∧ (WP d mX12_thrown 0 [some (.ref v2)] [] h (KK d mL_law mX12_thrown 604 [some (.ref v0), some (.ref v1), some (.ref v2), some (.ref v3), some (.ref v4), some (.int v5), some (.int v6), some (.int s0)] [] Q)))) : WP (d + 1) mL_law 601 [some (.ref v0), some (.ref v1), some (.ref v2), some (.ref v3), some (.ref v4), some (.int v5), some (.int v6), u7] [.int s0] h Q := by
  refine w_istore (lo' := [some (.ref v0), some (.ref v1), some (.ref v2), some (.ref v3), some (.ref v4), some (.int v5), some (.int v6), some (.int s0)]) dL_law_601 (ltQ rfl) rfl ?_
  refine w_aload_n dL_law_603 rfl ?_
  obtain ⟨g1, k⟩ := k
  obtain ⟨g2, k⟩ := k
  exact w_virt (as1 := [.ref v2]) (as2 := [.ref v2]) (rest := []) (lo2 := [some (.ref v2)]) dL_law_604 c_13_97 rfl rfl rfl (Nat.le_of_ble_eq_true rfl) (Nat.le_of_ble_eq_true rfl) rfl (Nat.le_of_ble_eq_true rfl) rfl rfl g1 g2 k
theorem bL_law_607 {d : Nat} {h : HP} {Q : Out → HP → Prop} {v0 : Nat} {v1 : Nat} {v2 : Nat} {v3 : Nat} {v4 : Nat} {v5 : Int32} {v6 : Int32} {v7 : Int32} {s0 : Int32} (k : ((s0 = v6) → ((¬ v6 = 0) → WP d mL_law 28 [some (.ref v0), some (.ref v1), some (.ref v2), some (.ref v3), some (.ref v4), some (.int (v5 + (5 : Int32))), some (.int v6), some (.int v7)] [] h Q) ∧ ((¬ (¬ v6 = 0)) → (hK h v3 = 23) ∧ ((inA h v3 (0 : Int32) = true) ∧ ((((lg_cmp (hAL h v3 ((0 : Int32)).toNatClampNeg) (Int32.toInt64 v7)) = 0) → WP d mL_law 28 [some (.ref v0), some (.ref v1), some (.ref v2), some (.ref v3), some (.ref v4), some (.int (v5 + (5 : Int32))), some (.int v6), some (.int v7)] [] h Q) ∧ ((¬ ((lg_cmp (hAL h v3 ((0 : Int32)).toNatClampNeg) (Int32.toInt64 v7)) = 0)) → Q (.inl (some (.int (0 : Int32)))) h))))) ∧ ((¬ (s0 = v6)) → Q (.inl (some (.int (0 : Int32)))) h)) : WP d mL_law 607 [some (.ref v0), some (.ref v1), some (.ref v2), some (.ref v3), some (.ref v4), some (.int v5), some (.int v6), some (.int v7)] [.int s0] h Q := by
  refine w_iload dL_law_607 rfl ?_
  refine w_ic_eq (pc' := 614) dL_law_609 rfl rfl ⟨fun c => ?_, fun c => ?_⟩
  · replace k := k.1 c
    refine w_iload dL_law_614 rfl ?_
    refine w_if_ne (pc' := 631) dL_law_616 rfl rfl ⟨fun c => ?_, fun c => ?_⟩
    · replace k := k.1 c
      refine w_goto (pc' := 1684) dL_law_631 rfl rfl ?_
      refine w_iinc (lo' := [some (.ref v0), some (.ref v1), some (.ref v2), some (.ref v3), some (.ref v4), some (.int (v5 + (5 : Int32))), some (.int v6), some (.int v7)]) dL_law_1684 rfl i1_5 rfl ?_
      refine w_goto (pc' := 28) dL_law_1687 rfl rfl ?_
      exact k
    · replace k := k.2 c
      refine w_aload_n dL_law_619 rfl ?_
      refine w_iconst dL_law_620 i1_0 ?_
      obtain ⟨g1, k⟩ := k
      obtain ⟨g2, k⟩ := k
      refine w_laload dL_law_621 g1 g2 ?_
      refine w_iload dL_law_622 rfl ?_
      refine w_i2l dL_law_624 ?_
      refine w_lcmp dL_law_625 ?_
      refine w_if_eq (pc' := 631) dL_law_626 rfl rfl ⟨fun c => ?_, fun c => ?_⟩
      · replace k := k.1 c
        refine w_goto (pc' := 1684) dL_law_631 rfl rfl ?_
        refine w_iinc (lo' := [some (.ref v0), some (.ref v1), some (.ref v2), some (.ref v3), some (.ref v4), some (.int (v5 + (5 : Int32))), some (.int v6), some (.int v7)]) dL_law_1684 rfl i1_5 rfl ?_
        refine w_goto (pc' := 28) dL_law_1687 rfl rfl ?_
        exact k
      · replace k := k.2 c
        refine w_iconst dL_law_629 i1_0 ?_
        exact w_ireturn dL_law_630 rfl k
  · replace k := k.2 c
    refine w_iconst dL_law_612 i1_0 ?_
    exact w_ireturn dL_law_613 rfl k
theorem bL_law_645 {d : Nat} {h : HP} {Q : Out → HP → Prop} {v0 : Nat} {v1 : Nat} {v2 : Nat} {v3 : Nat} {v4 : Nat} {v5 : Int32} {u6 : Option Value} {u7 : Option Value} {s0 : Int32} (k : (hK h v0 = 19) ∧ ((inA h v0 (v5 + (1 : Int32)) = true) ∧ ((1 < v2) ∧ ((hK h v2 = 12) ∧ (WP d mX12_lose 0 [some (.ref v2), some (.int (hAI h v0 ((v5 + (1 : Int32))).toNatClampNeg))] [] h (KK d mL_law mX12_lose 654 [some (.ref v0), some (.ref v1), some (.ref v2), some (.ref v3), some (.ref v4), some (.int v5), some (.int s0), u7] [] Q)))))) : WP (d + 1) mL_law 645 [some (.ref v0), some (.ref v1), some (.ref v2), some (.ref v3), some (.ref v4), some (.int v5), u6, u7] [.int s0] h Q := by
  refine w_istore (lo' := [some (.ref v0), some (.ref v1), some (.ref v2), some (.ref v3), some (.ref v4), some (.int v5), some (.int s0), u7]) dL_law_645 (ltQ rfl) rfl ?_
  refine w_aload_n dL_law_647 rfl ?_
  refine w_aload_n dL_law_648 rfl ?_
  refine w_iload dL_law_649 rfl ?_
  refine w_iconst dL_law_651 i1_1 ?_
  refine w_iadd dL_law_652 ?_
  obtain ⟨g1, k⟩ := k
  obtain ⟨g2, k⟩ := k
  refine w_iaload19 dL_law_653 g1 g2 ?_
  obtain ⟨g3, k⟩ := k
  obtain ⟨g4, k⟩ := k
  exact w_virt (as1 := [.int (hAI h v0 ((v5 + (1 : Int32))).toNatClampNeg), .ref v2]) (as2 := [.ref v2, .int (hAI h v0 ((v5 + (1 : Int32))).toNatClampNeg)]) (rest := []) (lo2 := [some (.ref v2), some (.int (hAI h v0 ((v5 + (1 : Int32))).toNatClampNeg))]) dL_law_654 c_13_125 rfl rfl rfl (Nat.le_of_ble_eq_true rfl) (Nat.le_of_ble_eq_true rfl) rfl (Nat.le_of_ble_eq_true rfl) rfl rfl g3 g4 k
theorem bL_law_657 {d : Nat} {h : HP} {Q : Out → HP → Prop} {v0 : Nat} {v1 : Nat} {v2 : Nat} {v3 : Nat} {v4 : Nat} {v5 : Int32} {v6 : Int32} {u7 : Option Value} {s0 : Int32} (k : (1 < v2) ∧ ((hK h v2 = 12) ∧ (WP d mX12_thrown 0 [some (.ref v2)] [] h (KK d mL_law mX12_thrown 660 [some (.ref v0), some (.ref v1), some (.ref v2), some (.ref v3), some (.ref v4), some (.int v5), some (.int v6), some (.int s0)] [] Q)))) : WP (d + 1) mL_law 657 [some (.ref v0), some (.ref v1), some (.ref v2), some (.ref v3), some (.ref v4), some (.int v5), some (.int v6), u7] [.int s0] h Q := by
  refine w_istore (lo' := [some (.ref v0), some (.ref v1), some (.ref v2), some (.ref v3), some (.ref v4), some (.int v5), some (.int v6), some (.int s0)]) dL_law_657 (ltQ rfl) rfl ?_
  refine w_aload_n dL_law_659 rfl ?_
  obtain ⟨g1, k⟩ := k
  obtain ⟨g2, k⟩ := k
  exact w_virt (as1 := [.ref v2]) (as2 := [.ref v2]) (rest := []) (lo2 := [some (.ref v2)]) dL_law_660 c_13_97 rfl rfl rfl (Nat.le_of_ble_eq_true rfl) (Nat.le_of_ble_eq_true rfl) rfl (Nat.le_of_ble_eq_true rfl) rfl rfl g1 g2 k
theorem bL_law_663 {d : Nat} {h : HP} {Q : Out → HP → Prop} {v0 : Nat} {v1 : Nat} {v2 : Nat} {v3 : Nat} {v4 : Nat} {v5 : Int32} {v6 : Int32} {v7 : Int32} {s0 : Int32} (k : ((s0 = v6) → ((¬ v6 = 0) → WP d mL_law 28 [some (.ref v0), some (.ref v1), some (.ref v2), some (.ref v3), some (.ref v4), some (.int (v5 + (5 : Int32))), some (.int v6), some (.int v7)] [] h Q) ∧ ((¬ (¬ v6 = 0)) → (hK h v3 = 23) ∧ ((inA h v3 (0 : Int32) = true) ∧ ((((lg_cmp (hAL h v3 ((0 : Int32)).toNatClampNeg) (Int32.toInt64 v7)) = 0) → WP d mL_law 28 [some (.ref v0), some (.ref v1), some (.ref v2), some (.ref v3), some (.ref v4), some (.int (v5 + (5 : Int32))), some (.int v6), some (.int v7)] [] h Q) ∧ ((¬ ((lg_cmp (hAL h v3 ((0 : Int32)).toNatClampNeg) (Int32.toInt64 v7)) = 0)) → Q (.inl (some (.int (0 : Int32)))) h))))) ∧ ((¬ (s0 = v6)) → Q (.inl (some (.int (0 : Int32)))) h)) : WP d mL_law 663 [some (.ref v0), some (.ref v1), some (.ref v2), some (.ref v3), some (.ref v4), some (.int v5), some (.int v6), some (.int v7)] [.int s0] h Q := by
  refine w_iload dL_law_663 rfl ?_
  refine w_ic_eq (pc' := 670) dL_law_665 rfl rfl ⟨fun c => ?_, fun c => ?_⟩
  · replace k := k.1 c
    refine w_iload dL_law_670 rfl ?_
    refine w_if_ne (pc' := 687) dL_law_672 rfl rfl ⟨fun c => ?_, fun c => ?_⟩
    · replace k := k.1 c
      refine w_goto (pc' := 1684) dL_law_687 rfl rfl ?_
      refine w_iinc (lo' := [some (.ref v0), some (.ref v1), some (.ref v2), some (.ref v3), some (.ref v4), some (.int (v5 + (5 : Int32))), some (.int v6), some (.int v7)]) dL_law_1684 rfl i1_5 rfl ?_
      refine w_goto (pc' := 28) dL_law_1687 rfl rfl ?_
      exact k
    · replace k := k.2 c
      refine w_aload_n dL_law_675 rfl ?_
      refine w_iconst dL_law_676 i1_0 ?_
      obtain ⟨g1, k⟩ := k
      obtain ⟨g2, k⟩ := k
      refine w_laload dL_law_677 g1 g2 ?_
      refine w_iload dL_law_678 rfl ?_
      refine w_i2l dL_law_680 ?_
      refine w_lcmp dL_law_681 ?_
      refine w_if_eq (pc' := 687) dL_law_682 rfl rfl ⟨fun c => ?_, fun c => ?_⟩
      · replace k := k.1 c
        refine w_goto (pc' := 1684) dL_law_687 rfl rfl ?_
        refine w_iinc (lo' := [some (.ref v0), some (.ref v1), some (.ref v2), some (.ref v3), some (.ref v4), some (.int (v5 + (5 : Int32))), some (.int v6), some (.int v7)]) dL_law_1684 rfl i1_5 rfl ?_
        refine w_goto (pc' := 28) dL_law_1687 rfl rfl ?_
        exact k
      · replace k := k.2 c
        refine w_iconst dL_law_685 i1_0 ?_
        exact w_ireturn dL_law_686 rfl k
  · replace k := k.2 c
    refine w_iconst dL_law_668 i1_0 ?_
    exact w_ireturn dL_law_669 rfl k
theorem bL_law_701 {d : Nat} {h : HP} {Q : Out → HP → Prop} {v0 : Nat} {v1 : Nat} {v2 : Nat} {v3 : Nat} {v4 : Nat} {v5 : Int32} {u6 : Option Value} {u7 : Option Value} {s0 : Int32} (k : (hK h v0 = 19) ∧ ((inA h v0 (v5 + (1 : Int32)) = true) ∧ ((1 < v2) ∧ ((hK h v2 = 12) ∧ (WP d mX12_twice 0 [some (.ref v2), some (.int (hAI h v0 ((v5 + (1 : Int32))).toNatClampNeg)), none] [] h (KK d mL_law mX12_twice 710 [some (.ref v0), some (.ref v1), some (.ref v2), some (.ref v3), some (.ref v4), some (.int v5), some (.int s0), u7] [] Q)))))) : WP (d + 1) mL_law 701 [some (.ref v0), some (.ref v1), some (.ref v2), some (.ref v3), some (.ref v4), some (.int v5), u6, u7] [.int s0] h Q := by
  refine w_istore (lo' := [some (.ref v0), some (.ref v1), some (.ref v2), some (.ref v3), some (.ref v4), some (.int v5), some (.int s0), u7]) dL_law_701 (ltQ rfl) rfl ?_
  refine w_aload_n dL_law_703 rfl ?_
  refine w_aload_n dL_law_704 rfl ?_
  refine w_iload dL_law_705 rfl ?_
  refine w_iconst dL_law_707 i1_1 ?_
  refine w_iadd dL_law_708 ?_
  obtain ⟨g1, k⟩ := k
  obtain ⟨g2, k⟩ := k
  refine w_iaload19 dL_law_709 g1 g2 ?_
  obtain ⟨g3, k⟩ := k
  obtain ⟨g4, k⟩ := k
  exact w_virt (as1 := [.int (hAI h v0 ((v5 + (1 : Int32))).toNatClampNeg), .ref v2]) (as2 := [.ref v2, .int (hAI h v0 ((v5 + (1 : Int32))).toNatClampNeg)]) (rest := []) (lo2 := [some (.ref v2), some (.int (hAI h v0 ((v5 + (1 : Int32))).toNatClampNeg)), none]) dL_law_710 c_13_128 rfl rfl rfl (Nat.le_of_ble_eq_true rfl) (Nat.le_of_ble_eq_true rfl) rfl (Nat.le_of_ble_eq_true rfl) rfl rfl g3 g4 k
theorem bL_law_713 {d : Nat} {h : HP} {Q : Out → HP → Prop} {v0 : Nat} {v1 : Nat} {v2 : Nat} {v3 : Nat} {v4 : Nat} {v5 : Int32} {v6 : Int32} {u7 : Option Value} {s0 : Int32} (k : (1 < v2) ∧ ((hK h v2 = 12) ∧ (WP d mX12_thrown 0 [some (.ref v2)] [] h (KK d mL_law mX12_thrown 716 [some (.ref v0), some (.ref v1), some (.ref v2), some (.ref v3), some (.ref v4), some (.int v5), some (.int v6), some (.int s0)] [] Q)))) : WP (d + 1) mL_law 713 [some (.ref v0), some (.ref v1), some (.ref v2), some (.ref v3), some (.ref v4), some (.int v5), some (.int v6), u7] [.int s0] h Q := by
  refine w_istore (lo' := [some (.ref v0), some (.ref v1), some (.ref v2), some (.ref v3), some (.ref v4), some (.int v5), some (.int v6), some (.int s0)]) dL_law_713 (ltQ rfl) rfl ?_
  refine w_aload_n dL_law_715 rfl ?_
  obtain ⟨g1, k⟩ := k
  obtain ⟨g2, k⟩ := k
  exact w_virt (as1 := [.ref v2]) (as2 := [.ref v2]) (rest := []) (lo2 := [some (.ref v2)]) dL_law_716 c_13_97 rfl rfl rfl (Nat.le_of_ble_eq_true rfl) (Nat.le_of_ble_eq_true rfl) rfl (Nat.le_of_ble_eq_true rfl) rfl rfl g1 g2 k
theorem bL_law_719 {d : Nat} {h : HP} {Q : Out → HP → Prop} {v0 : Nat} {v1 : Nat} {v2 : Nat} {v3 : Nat} {v4 : Nat} {v5 : Int32} {v6 : Int32} {v7 : Int32} {s0 : Int32} (k : ((s0 = v6) → ((¬ v6 = 0) → WP d mL_law 28 [some (.ref v0), some (.ref v1), some (.ref v2), some (.ref v3), some (.ref v4), some (.int (v5 + (5 : Int32))), some (.int v6), some (.int v7)] [] h Q) ∧ ((¬ (¬ v6 = 0)) → (hK h v3 = 23) ∧ ((inA h v3 (0 : Int32) = true) ∧ ((((lg_cmp (hAL h v3 ((0 : Int32)).toNatClampNeg) (Int32.toInt64 v7)) = 0) → WP d mL_law 28 [some (.ref v0), some (.ref v1), some (.ref v2), some (.ref v3), some (.ref v4), some (.int (v5 + (5 : Int32))), some (.int v6), some (.int v7)] [] h Q) ∧ ((¬ ((lg_cmp (hAL h v3 ((0 : Int32)).toNatClampNeg) (Int32.toInt64 v7)) = 0)) → Q (.inl (some (.int (0 : Int32)))) h))))) ∧ ((¬ (s0 = v6)) → Q (.inl (some (.int (0 : Int32)))) h)) : WP d mL_law 719 [some (.ref v0), some (.ref v1), some (.ref v2), some (.ref v3), some (.ref v4), some (.int v5), some (.int v6), some (.int v7)] [.int s0] h Q := by
  refine w_iload dL_law_719 rfl ?_
  refine w_ic_eq (pc' := 726) dL_law_721 rfl rfl ⟨fun c => ?_, fun c => ?_⟩
  · replace k := k.1 c
    refine w_iload dL_law_726 rfl ?_
    refine w_if_ne (pc' := 743) dL_law_728 rfl rfl ⟨fun c => ?_, fun c => ?_⟩
    · replace k := k.1 c
      refine w_goto (pc' := 1684) dL_law_743 rfl rfl ?_
      refine w_iinc (lo' := [some (.ref v0), some (.ref v1), some (.ref v2), some (.ref v3), some (.ref v4), some (.int (v5 + (5 : Int32))), some (.int v6), some (.int v7)]) dL_law_1684 rfl i1_5 rfl ?_
      refine w_goto (pc' := 28) dL_law_1687 rfl rfl ?_
      exact k
    · replace k := k.2 c
      refine w_aload_n dL_law_731 rfl ?_
      refine w_iconst dL_law_732 i1_0 ?_
      obtain ⟨g1, k⟩ := k
      obtain ⟨g2, k⟩ := k
      refine w_laload dL_law_733 g1 g2 ?_
      refine w_iload dL_law_734 rfl ?_
      refine w_i2l dL_law_736 ?_
      refine w_lcmp dL_law_737 ?_
      refine w_if_eq (pc' := 743) dL_law_738 rfl rfl ⟨fun c => ?_, fun c => ?_⟩
      · replace k := k.1 c
        refine w_goto (pc' := 1684) dL_law_743 rfl rfl ?_
        refine w_iinc (lo' := [some (.ref v0), some (.ref v1), some (.ref v2), some (.ref v3), some (.ref v4), some (.int (v5 + (5 : Int32))), some (.int v6), some (.int v7)]) dL_law_1684 rfl i1_5 rfl ?_
        refine w_goto (pc' := 28) dL_law_1687 rfl rfl ?_
        exact k
      · replace k := k.2 c
        refine w_iconst dL_law_741 i1_0 ?_
        exact w_ireturn dL_law_742 rfl k
  · replace k := k.2 c
    refine w_iconst dL_law_724 i1_0 ?_
    exact w_ireturn dL_law_725 rfl k
theorem bL_law_757 {d : Nat} {h : HP} {Q : Out → HP → Prop} {v0 : Nat} {v1 : Nat} {v2 : Nat} {v3 : Nat} {v4 : Nat} {v5 : Int32} {u6 : Option Value} {u7 : Option Value} {s0 : Int32} (k : (hK h v0 = 19) ∧ ((inA h v0 (v5 + (1 : Int32)) = true) ∧ ((1 < v2) ∧ ((hK h v2 = 12) ∧ (WP d mX12_stand 0 [some (.ref v2), some (.int (hAI h v0 ((v5 + (1 : Int32))).toNatClampNeg)), none, none, none, none] [] h (KK d mL_law mX12_stand 766 [some (.ref v0), some (.ref v1), some (.ref v2), some (.ref v3), some (.ref v4), some (.int v5), some (.int s0), u7] [] Q)))))) : WP (d + 1) mL_law 757 [some (.ref v0), some (.ref v1), some (.ref v2), some (.ref v3), some (.ref v4), some (.int v5), u6, u7] [.int s0] h Q := by
  refine w_istore (lo' := [some (.ref v0), some (.ref v1), some (.ref v2), some (.ref v3), some (.ref v4), some (.int v5), some (.int s0), u7]) dL_law_757 (ltQ rfl) rfl ?_
  refine w_aload_n dL_law_759 rfl ?_
  refine w_aload_n dL_law_760 rfl ?_
  refine w_iload dL_law_761 rfl ?_
  refine w_iconst dL_law_763 i1_1 ?_
  refine w_iadd dL_law_764 ?_
  obtain ⟨g1, k⟩ := k
  obtain ⟨g2, k⟩ := k
  refine w_iaload19 dL_law_765 g1 g2 ?_
  obtain ⟨g3, k⟩ := k
  obtain ⟨g4, k⟩ := k
  exact w_virt (as1 := [.int (hAI h v0 ((v5 + (1 : Int32))).toNatClampNeg), .ref v2]) (as2 := [.ref v2, .int (hAI h v0 ((v5 + (1 : Int32))).toNatClampNeg)]) (rest := []) (lo2 := [some (.ref v2), some (.int (hAI h v0 ((v5 + (1 : Int32))).toNatClampNeg)), none, none, none, none]) dL_law_766 c_13_131 rfl rfl rfl (Nat.le_of_ble_eq_true rfl) (Nat.le_of_ble_eq_true rfl) rfl (Nat.le_of_ble_eq_true rfl) rfl rfl g3 g4 k
theorem bL_law_769 {d : Nat} {h : HP} {Q : Out → HP → Prop} {v0 : Nat} {v1 : Nat} {v2 : Nat} {v3 : Nat} {v4 : Nat} {v5 : Int32} {v6 : Int32} {u7 : Option Value} {s0 : Int32} (k : (1 < v2) ∧ ((hK h v2 = 12) ∧ (WP d mX12_thrown 0 [some (.ref v2)] [] h (KK d mL_law mX12_thrown 772 [some (.ref v0), some (.ref v1), some (.ref v2), some (.ref v3), some (.ref v4), some (.int v5), some (.int v6), some (.int s0)] [] Q)))) : WP (d + 1) mL_law 769 [some (.ref v0), some (.ref v1), some (.ref v2), some (.ref v3), some (.ref v4), some (.int v5), some (.int v6), u7] [.int s0] h Q := by
  refine w_istore (lo' := [some (.ref v0), some (.ref v1), some (.ref v2), some (.ref v3), some (.ref v4), some (.int v5), some (.int v6), some (.int s0)]) dL_law_769 (ltQ rfl) rfl ?_
  refine w_aload_n dL_law_771 rfl ?_
  obtain ⟨g1, k⟩ := k
  obtain ⟨g2, k⟩ := k
  exact w_virt (as1 := [.ref v2]) (as2 := [.ref v2]) (rest := []) (lo2 := [some (.ref v2)]) dL_law_772 c_13_97 rfl rfl rfl (Nat.le_of_ble_eq_true rfl) (Nat.le_of_ble_eq_true rfl) rfl (Nat.le_of_ble_eq_true rfl) rfl rfl g1 g2 k
theorem bL_law_775 {d : Nat} {h : HP} {Q : Out → HP → Prop} {v0 : Nat} {v1 : Nat} {v2 : Nat} {v3 : Nat} {v4 : Nat} {v5 : Int32} {v6 : Int32} {v7 : Int32} {s0 : Int32} (k : ((s0 = v6) → ((¬ v6 = 0) → WP d mL_law 28 [some (.ref v0), some (.ref v1), some (.ref v2), some (.ref v3), some (.ref v4), some (.int (v5 + (5 : Int32))), some (.int v6), some (.int v7)] [] h Q) ∧ ((¬ (¬ v6 = 0)) → (hK h v3 = 23) ∧ ((inA h v3 (0 : Int32) = true) ∧ ((((lg_cmp (hAL h v3 ((0 : Int32)).toNatClampNeg) (Int32.toInt64 v7)) = 0) → WP d mL_law 28 [some (.ref v0), some (.ref v1), some (.ref v2), some (.ref v3), some (.ref v4), some (.int (v5 + (5 : Int32))), some (.int v6), some (.int v7)] [] h Q) ∧ ((¬ ((lg_cmp (hAL h v3 ((0 : Int32)).toNatClampNeg) (Int32.toInt64 v7)) = 0)) → Q (.inl (some (.int (0 : Int32)))) h))))) ∧ ((¬ (s0 = v6)) → Q (.inl (some (.int (0 : Int32)))) h)) : WP d mL_law 775 [some (.ref v0), some (.ref v1), some (.ref v2), some (.ref v3), some (.ref v4), some (.int v5), some (.int v6), some (.int v7)] [.int s0] h Q := by
  refine w_iload dL_law_775 rfl ?_
  refine w_ic_eq (pc' := 782) dL_law_777 rfl rfl ⟨fun c => ?_, fun c => ?_⟩
  · replace k := k.1 c
    refine w_iload dL_law_782 rfl ?_
    refine w_if_ne (pc' := 799) dL_law_784 rfl rfl ⟨fun c => ?_, fun c => ?_⟩
    · replace k := k.1 c
      refine w_goto (pc' := 1684) dL_law_799 rfl rfl ?_
      refine w_iinc (lo' := [some (.ref v0), some (.ref v1), some (.ref v2), some (.ref v3), some (.ref v4), some (.int (v5 + (5 : Int32))), some (.int v6), some (.int v7)]) dL_law_1684 rfl i1_5 rfl ?_
      refine w_goto (pc' := 28) dL_law_1687 rfl rfl ?_
      exact k
    · replace k := k.2 c
      refine w_aload_n dL_law_787 rfl ?_
      refine w_iconst dL_law_788 i1_0 ?_
      obtain ⟨g1, k⟩ := k
      obtain ⟨g2, k⟩ := k
      refine w_laload dL_law_789 g1 g2 ?_
      refine w_iload dL_law_790 rfl ?_
      refine w_i2l dL_law_792 ?_
      refine w_lcmp dL_law_793 ?_
      refine w_if_eq (pc' := 799) dL_law_794 rfl rfl ⟨fun c => ?_, fun c => ?_⟩
      · replace k := k.1 c
        refine w_goto (pc' := 1684) dL_law_799 rfl rfl ?_
        refine w_iinc (lo' := [some (.ref v0), some (.ref v1), some (.ref v2), some (.ref v3), some (.ref v4), some (.int (v5 + (5 : Int32))), some (.int v6), some (.int v7)]) dL_law_1684 rfl i1_5 rfl ?_
        refine w_goto (pc' := 28) dL_law_1687 rfl rfl ?_
        exact k
      · replace k := k.2 c
        refine w_iconst dL_law_797 i1_0 ?_
        exact w_ireturn dL_law_798 rfl k
  · replace k := k.2 c
    refine w_iconst dL_law_780 i1_0 ?_
    exact w_ireturn dL_law_781 rfl k
theorem bL_law_813 {d : Nat} {h : HP} {Q : Out → HP → Prop} {v0 : Nat} {v1 : Nat} {v2 : Nat} {v3 : Nat} {v4 : Nat} {v5 : Int32} {u6 : Option Value} {u7 : Option Value} {s0 : Int32} (k : (hK h v0 = 19) ∧ ((inA h v0 (v5 + (1 : Int32)) = true) ∧ ((1 < v2) ∧ ((hK h v2 = 12) ∧ (WP d mX12_beat 0 [some (.ref v2), some (.int (hAI h v0 ((v5 + (1 : Int32))).toNatClampNeg)), none, none, none, none, none, none, none, none, none] [] h (KK d mL_law mX12_beat 822 [some (.ref v0), some (.ref v1), some (.ref v2), some (.ref v3), some (.ref v4), some (.int v5), some (.int s0), u7] [] Q)))))) : WP (d + 1) mL_law 813 [some (.ref v0), some (.ref v1), some (.ref v2), some (.ref v3), some (.ref v4), some (.int v5), u6, u7] [.int s0] h Q := by
  refine w_istore (lo' := [some (.ref v0), some (.ref v1), some (.ref v2), some (.ref v3), some (.ref v4), some (.int v5), some (.int s0), u7]) dL_law_813 (ltQ rfl) rfl ?_
  refine w_aload_n dL_law_815 rfl ?_
  refine w_aload_n dL_law_816 rfl ?_
  refine w_iload dL_law_817 rfl ?_
  refine w_iconst dL_law_819 i1_1 ?_
  refine w_iadd dL_law_820 ?_
  obtain ⟨g1, k⟩ := k
  obtain ⟨g2, k⟩ := k
  refine w_iaload19 dL_law_821 g1 g2 ?_
  obtain ⟨g3, k⟩ := k
  obtain ⟨g4, k⟩ := k
  exact w_virt (as1 := [.int (hAI h v0 ((v5 + (1 : Int32))).toNatClampNeg), .ref v2]) (as2 := [.ref v2, .int (hAI h v0 ((v5 + (1 : Int32))).toNatClampNeg)]) (rest := []) (lo2 := [some (.ref v2), some (.int (hAI h v0 ((v5 + (1 : Int32))).toNatClampNeg)), none, none, none, none, none, none, none, none, none]) dL_law_822 c_13_134 rfl rfl rfl (Nat.le_of_ble_eq_true rfl) (Nat.le_of_ble_eq_true rfl) rfl (Nat.le_of_ble_eq_true rfl) rfl rfl g3 g4 k
theorem bL_law_825 {d : Nat} {h : HP} {Q : Out → HP → Prop} {v0 : Nat} {v1 : Nat} {v2 : Nat} {v3 : Nat} {v4 : Nat} {v5 : Int32} {v6 : Int32} {u7 : Option Value} {s0 : Int32} (k : (1 < v2) ∧ ((hK h v2 = 12) ∧ (WP d mX12_thrown 0 [some (.ref v2)] [] h (KK d mL_law mX12_thrown 828 [some (.ref v0), some (.ref v1), some (.ref v2), some (.ref v3), some (.ref v4), some (.int v5), some (.int v6), some (.int s0)] [] Q)))) : WP (d + 1) mL_law 825 [some (.ref v0), some (.ref v1), some (.ref v2), some (.ref v3), some (.ref v4), some (.int v5), some (.int v6), u7] [.int s0] h Q := by
  refine w_istore (lo' := [some (.ref v0), some (.ref v1), some (.ref v2), some (.ref v3), some (.ref v4), some (.int v5), some (.int v6), some (.int s0)]) dL_law_825 (ltQ rfl) rfl ?_
  refine w_aload_n dL_law_827 rfl ?_
  obtain ⟨g1, k⟩ := k
  obtain ⟨g2, k⟩ := k
  exact w_virt (as1 := [.ref v2]) (as2 := [.ref v2]) (rest := []) (lo2 := [some (.ref v2)]) dL_law_828 c_13_97 rfl rfl rfl (Nat.le_of_ble_eq_true rfl) (Nat.le_of_ble_eq_true rfl) rfl (Nat.le_of_ble_eq_true rfl) rfl rfl g1 g2 k
theorem bL_law_831 {d : Nat} {h : HP} {Q : Out → HP → Prop} {v0 : Nat} {v1 : Nat} {v2 : Nat} {v3 : Nat} {v4 : Nat} {v5 : Int32} {v6 : Int32} {v7 : Int32} {s0 : Int32} (k : ((s0 = v6) → ((¬ v6 = 0) → WP d mL_law 28 [some (.ref v0), some (.ref v1), some (.ref v2), some (.ref v3), some (.ref v4), some (.int (v5 + (5 : Int32))), some (.int v6), some (.int v7)] [] h Q) ∧ ((¬ (¬ v6 = 0)) → (hK h v3 = 23) ∧ ((inA h v3 (0 : Int32) = true) ∧ ((((lg_cmp (hAL h v3 ((0 : Int32)).toNatClampNeg) (Int32.toInt64 v7)) = 0) → WP d mL_law 28 [some (.ref v0), some (.ref v1), some (.ref v2), some (.ref v3), some (.ref v4), some (.int (v5 + (5 : Int32))), some (.int v6), some (.int v7)] [] h Q) ∧ ((¬ ((lg_cmp (hAL h v3 ((0 : Int32)).toNatClampNeg) (Int32.toInt64 v7)) = 0)) → Q (.inl (some (.int (0 : Int32)))) h))))) ∧ ((¬ (s0 = v6)) → Q (.inl (some (.int (0 : Int32)))) h)) : WP d mL_law 831 [some (.ref v0), some (.ref v1), some (.ref v2), some (.ref v3), some (.ref v4), some (.int v5), some (.int v6), some (.int v7)] [.int s0] h Q := by
  refine w_iload dL_law_831 rfl ?_
  refine w_ic_eq (pc' := 838) dL_law_833 rfl rfl ⟨fun c => ?_, fun c => ?_⟩
  · replace k := k.1 c
    refine w_iload dL_law_838 rfl ?_
    refine w_if_ne (pc' := 855) dL_law_840 rfl rfl ⟨fun c => ?_, fun c => ?_⟩
    · replace k := k.1 c
      refine w_goto (pc' := 1684) dL_law_855 rfl rfl ?_
      refine w_iinc (lo' := [some (.ref v0), some (.ref v1), some (.ref v2), some (.ref v3), some (.ref v4), some (.int (v5 + (5 : Int32))), some (.int v6), some (.int v7)]) dL_law_1684 rfl i1_5 rfl ?_
      refine w_goto (pc' := 28) dL_law_1687 rfl rfl ?_
      exact k
    · replace k := k.2 c
      refine w_aload_n dL_law_843 rfl ?_
      refine w_iconst dL_law_844 i1_0 ?_
      obtain ⟨g1, k⟩ := k
      obtain ⟨g2, k⟩ := k
      refine w_laload dL_law_845 g1 g2 ?_
      refine w_iload dL_law_846 rfl ?_
      refine w_i2l dL_law_848 ?_
      refine w_lcmp dL_law_849 ?_
      refine w_if_eq (pc' := 855) dL_law_850 rfl rfl ⟨fun c => ?_, fun c => ?_⟩
      · replace k := k.1 c
        refine w_goto (pc' := 1684) dL_law_855 rfl rfl ?_
        refine w_iinc (lo' := [some (.ref v0), some (.ref v1), some (.ref v2), some (.ref v3), some (.ref v4), some (.int (v5 + (5 : Int32))), some (.int v6), some (.int v7)]) dL_law_1684 rfl i1_5 rfl ?_
        refine w_goto (pc' := 28) dL_law_1687 rfl rfl ?_
        exact k
      · replace k := k.2 c
        refine w_iconst dL_law_853 i1_0 ?_
        exact w_ireturn dL_law_854 rfl k
  · replace k := k.2 c
    refine w_iconst dL_law_836 i1_0 ?_
    exact w_ireturn dL_law_837 rfl k
theorem bL_law_887 {d : Nat} {h : HP} {Q : Out → HP → Prop} {v0 : Nat} {v1 : Nat} {v2 : Nat} {v3 : Nat} {v4 : Nat} {v5 : Int32} {u6 : Option Value} {u7 : Option Value} {s0 : Int32} (k : (hK h v0 = 19) ∧ ((inA h v0 (v5 + (1 : Int32)) = true) ∧ ((inA h v0 (v5 + (2 : Int32)) = true) ∧ ((inA h v0 (v5 + (3 : Int32)) = true) ∧ ((inA h v0 (v5 + (4 : Int32)) = true) ∧ ((1 < v2) ∧ ((hK h v2 = 12) ∧ (WP d mX12_request 0 [some (.ref v2), some (.int (hAI h v0 ((v5 + (1 : Int32))).toNatClampNeg)), some (.int (hAI h v0 ((v5 + (2 : Int32))).toNatClampNeg)), some (.int (hAI h v0 ((v5 + (3 : Int32))).toNatClampNeg)), some (.int (hAI h v0 ((v5 + (4 : Int32))).toNatClampNeg)), none, none, none, none, none, none] [] h (KK d mL_law mX12_request 914 [some (.ref v0), some (.ref v1), some (.ref v2), some (.ref v3), some (.ref v4), some (.int v5), some (.int s0), u7] [] Q))))))))) : WP (d + 1) mL_law 887 [some (.ref v0), some (.ref v1), some (.ref v2), some (.ref v3), some (.ref v4), some (.int v5), u6, u7] [.int s0] h Q := by
  refine w_istore (lo' := [some (.ref v0), some (.ref v1), some (.ref v2), some (.ref v3), some (.ref v4), some (.int v5), some (.int s0), u7]) dL_law_887 (ltQ rfl) rfl ?_
  refine w_aload_n dL_law_889 rfl ?_
  refine w_aload_n dL_law_890 rfl ?_
  refine w_iload dL_law_891 rfl ?_
  refine w_iconst dL_law_893 i1_1 ?_
  refine w_iadd dL_law_894 ?_
  obtain ⟨g1, k⟩ := k
  obtain ⟨g2, k⟩ := k
  refine w_iaload19 dL_law_895 g1 g2 ?_
  refine w_aload_n dL_law_896 rfl ?_
  refine w_iload dL_law_897 rfl ?_
  refine w_iconst dL_law_899 i1_2 ?_
  refine w_iadd dL_law_900 ?_
  obtain ⟨g3, k⟩ := k
  refine w_iaload19 dL_law_901 g1 g3 ?_
  refine w_aload_n dL_law_902 rfl ?_
  refine w_iload dL_law_903 rfl ?_
  refine w_iconst dL_law_905 i1_3 ?_
  refine w_iadd dL_law_906 ?_
  obtain ⟨g4, k⟩ := k
  refine w_iaload19 dL_law_907 g1 g4 ?_
  refine w_aload_n dL_law_908 rfl ?_
  refine w_iload dL_law_909 rfl ?_
  refine w_iconst dL_law_911 i1_4 ?_
  refine w_iadd dL_law_912 ?_
  obtain ⟨g5, k⟩ := k
  refine w_iaload19 dL_law_913 g1 g5 ?_
  obtain ⟨g6, k⟩ := k
  obtain ⟨g7, k⟩ := k
  exact w_virt (as1 := [.int (hAI h v0 ((v5 + (4 : Int32))).toNatClampNeg), .int (hAI h v0 ((v5 + (3 : Int32))).toNatClampNeg), .int (hAI h v0 ((v5 + (2 : Int32))).toNatClampNeg), .int (hAI h v0 ((v5 + (1 : Int32))).toNatClampNeg), .ref v2]) (as2 := [.ref v2, .int (hAI h v0 ((v5 + (1 : Int32))).toNatClampNeg), .int (hAI h v0 ((v5 + (2 : Int32))).toNatClampNeg), .int (hAI h v0 ((v5 + (3 : Int32))).toNatClampNeg), .int (hAI h v0 ((v5 + (4 : Int32))).toNatClampNeg)]) (rest := []) (lo2 := [some (.ref v2), some (.int (hAI h v0 ((v5 + (1 : Int32))).toNatClampNeg)), some (.int (hAI h v0 ((v5 + (2 : Int32))).toNatClampNeg)), some (.int (hAI h v0 ((v5 + (3 : Int32))).toNatClampNeg)), some (.int (hAI h v0 ((v5 + (4 : Int32))).toNatClampNeg)), none, none, none, none, none, none]) dL_law_914 c_13_138 rfl rfl rfl (Nat.le_of_ble_eq_true rfl) (Nat.le_of_ble_eq_true rfl) rfl (Nat.le_of_ble_eq_true rfl) rfl rfl g6 g7 k
theorem bL_law_917 {d : Nat} {h : HP} {Q : Out → HP → Prop} {v0 : Nat} {v1 : Nat} {v2 : Nat} {v3 : Nat} {v4 : Nat} {v5 : Int32} {v6 : Int32} {u7 : Option Value} {s0 : Int32} (k : (1 < v2) ∧ ((hK h v2 = 12) ∧ (WP d mX12_thrown 0 [some (.ref v2)] [] h (KK d mL_law mX12_thrown 920 [some (.ref v0), some (.ref v1), some (.ref v2), some (.ref v3), some (.ref v4), some (.int v5), some (.int v6), some (.int s0)] [] Q)))) : WP (d + 1) mL_law 917 [some (.ref v0), some (.ref v1), some (.ref v2), some (.ref v3), some (.ref v4), some (.int v5), some (.int v6), u7] [.int s0] h Q := by
  refine w_istore (lo' := [some (.ref v0), some (.ref v1), some (.ref v2), some (.ref v3), some (.ref v4), some (.int v5), some (.int v6), some (.int s0)]) dL_law_917 (ltQ rfl) rfl ?_
  refine w_aload_n dL_law_919 rfl ?_
  obtain ⟨g1, k⟩ := k
  obtain ⟨g2, k⟩ := k
  exact w_virt (as1 := [.ref v2]) (as2 := [.ref v2]) (rest := []) (lo2 := [some (.ref v2)]) dL_law_920 c_13_97 rfl rfl rfl (Nat.le_of_ble_eq_true rfl) (Nat.le_of_ble_eq_true rfl) rfl (Nat.le_of_ble_eq_true rfl) rfl rfl g1 g2 k
theorem bL_law_923 {d : Nat} {h : HP} {Q : Out → HP → Prop} {v0 : Nat} {v1 : Nat} {v2 : Nat} {v3 : Nat} {v4 : Nat} {v5 : Int32} {v6 : Int32} {v7 : Int32} {s0 : Int32} (k : ((s0 = v6) → ((¬ v6 = 0) → WP d mL_law 28 [some (.ref v0), some (.ref v1), some (.ref v2), some (.ref v3), some (.ref v4), some (.int (v5 + (5 : Int32))), some (.int v6), some (.int v7)] [] h Q) ∧ ((¬ (¬ v6 = 0)) → (hK h v3 = 23) ∧ ((inA h v3 (0 : Int32) = true) ∧ ((((lg_cmp (hAL h v3 ((0 : Int32)).toNatClampNeg) (Int32.toInt64 v7)) = 0) → WP d mL_law 28 [some (.ref v0), some (.ref v1), some (.ref v2), some (.ref v3), some (.ref v4), some (.int (v5 + (5 : Int32))), some (.int v6), some (.int v7)] [] h Q) ∧ ((¬ ((lg_cmp (hAL h v3 ((0 : Int32)).toNatClampNeg) (Int32.toInt64 v7)) = 0)) → Q (.inl (some (.int (0 : Int32)))) h))))) ∧ ((¬ (s0 = v6)) → Q (.inl (some (.int (0 : Int32)))) h)) : WP d mL_law 923 [some (.ref v0), some (.ref v1), some (.ref v2), some (.ref v3), some (.ref v4), some (.int v5), some (.int v6), some (.int v7)] [.int s0] h Q := by
  refine w_iload dL_law_923 rfl ?_
  refine w_ic_eq (pc' := 930) dL_law_925 rfl rfl ⟨fun c => ?_, fun c => ?_⟩
  · replace k := k.1 c
    refine w_iload dL_law_930 rfl ?_
    refine w_if_ne (pc' := 947) dL_law_932 rfl rfl ⟨fun c => ?_, fun c => ?_⟩
    · replace k := k.1 c
      refine w_goto (pc' := 1684) dL_law_947 rfl rfl ?_
      refine w_iinc (lo' := [some (.ref v0), some (.ref v1), some (.ref v2), some (.ref v3), some (.ref v4), some (.int (v5 + (5 : Int32))), some (.int v6), some (.int v7)]) dL_law_1684 rfl i1_5 rfl ?_
      refine w_goto (pc' := 28) dL_law_1687 rfl rfl ?_
      exact k
    · replace k := k.2 c
      refine w_aload_n dL_law_935 rfl ?_
      refine w_iconst dL_law_936 i1_0 ?_
      obtain ⟨g1, k⟩ := k
      obtain ⟨g2, k⟩ := k
      refine w_laload dL_law_937 g1 g2 ?_
      refine w_iload dL_law_938 rfl ?_
      refine w_i2l dL_law_940 ?_
      refine w_lcmp dL_law_941 ?_
      refine w_if_eq (pc' := 947) dL_law_942 rfl rfl ⟨fun c => ?_, fun c => ?_⟩
      · replace k := k.1 c
        refine w_goto (pc' := 1684) dL_law_947 rfl rfl ?_
        refine w_iinc (lo' := [some (.ref v0), some (.ref v1), some (.ref v2), some (.ref v3), some (.ref v4), some (.int (v5 + (5 : Int32))), some (.int v6), some (.int v7)]) dL_law_1684 rfl i1_5 rfl ?_
        refine w_goto (pc' := 28) dL_law_1687 rfl rfl ?_
        exact k
      · replace k := k.2 c
        refine w_iconst dL_law_945 i1_0 ?_
        exact w_ireturn dL_law_946 rfl k
  · replace k := k.2 c
    refine w_iconst dL_law_928 i1_0 ?_
    exact w_ireturn dL_law_929 rfl k
theorem bL_law_961 {d : Nat} {h : HP} {Q : Out → HP → Prop} {v0 : Nat} {v1 : Nat} {v2 : Nat} {v3 : Nat} {v4 : Nat} {v5 : Int32} {u6 : Option Value} {u7 : Option Value} {s0 : Int32} (k : (hK h v0 = 19) ∧ ((inA h v0 (v5 + (1 : Int32)) = true) ∧ ((1 < v2) ∧ ((hK h v2 = 12) ∧ (WP d mX12_read 0 [some (.ref v2), some (.int (hAI h v0 ((v5 + (1 : Int32))).toNatClampNeg)), none, none, none] [] h (KK d mL_law mX12_read 970 [some (.ref v0), some (.ref v1), some (.ref v2), some (.ref v3), some (.ref v4), some (.int v5), some (.int s0), u7] [] Q)))))) : WP (d + 1) mL_law 961 [some (.ref v0), some (.ref v1), some (.ref v2), some (.ref v3), some (.ref v4), some (.int v5), u6, u7] [.int s0] h Q := by
  refine w_istore (lo' := [some (.ref v0), some (.ref v1), some (.ref v2), some (.ref v3), some (.ref v4), some (.int v5), some (.int s0), u7]) dL_law_961 (ltQ rfl) rfl ?_
  refine w_aload_n dL_law_963 rfl ?_
  refine w_aload_n dL_law_964 rfl ?_
  refine w_iload dL_law_965 rfl ?_
  refine w_iconst dL_law_967 i1_1 ?_
  refine w_iadd dL_law_968 ?_
  obtain ⟨g1, k⟩ := k
  obtain ⟨g2, k⟩ := k
  refine w_iaload19 dL_law_969 g1 g2 ?_
  obtain ⟨g3, k⟩ := k
  obtain ⟨g4, k⟩ := k
  exact w_virt (as1 := [.int (hAI h v0 ((v5 + (1 : Int32))).toNatClampNeg), .ref v2]) (as2 := [.ref v2, .int (hAI h v0 ((v5 + (1 : Int32))).toNatClampNeg)]) (rest := []) (lo2 := [some (.ref v2), some (.int (hAI h v0 ((v5 + (1 : Int32))).toNatClampNeg)), none, none, none]) dL_law_970 c_13_141 rfl rfl rfl (Nat.le_of_ble_eq_true rfl) (Nat.le_of_ble_eq_true rfl) rfl (Nat.le_of_ble_eq_true rfl) rfl rfl g3 g4 k
theorem bL_law_973 {d : Nat} {h : HP} {Q : Out → HP → Prop} {v0 : Nat} {v1 : Nat} {v2 : Nat} {v3 : Nat} {v4 : Nat} {v5 : Int32} {v6 : Int32} {u7 : Option Value} {s0 : Int32} (k : (1 < v2) ∧ ((hK h v2 = 12) ∧ (WP d mX12_thrown 0 [some (.ref v2)] [] h (KK d mL_law mX12_thrown 976 [some (.ref v0), some (.ref v1), some (.ref v2), some (.ref v3), some (.ref v4), some (.int v5), some (.int v6), some (.int s0)] [] Q)))) : WP (d + 1) mL_law 973 [some (.ref v0), some (.ref v1), some (.ref v2), some (.ref v3), some (.ref v4), some (.int v5), some (.int v6), u7] [.int s0] h Q := by
  refine w_istore (lo' := [some (.ref v0), some (.ref v1), some (.ref v2), some (.ref v3), some (.ref v4), some (.int v5), some (.int v6), some (.int s0)]) dL_law_973 (ltQ rfl) rfl ?_
  refine w_aload_n dL_law_975 rfl ?_
  obtain ⟨g1, k⟩ := k
  obtain ⟨g2, k⟩ := k
  exact w_virt (as1 := [.ref v2]) (as2 := [.ref v2]) (rest := []) (lo2 := [some (.ref v2)]) dL_law_976 c_13_97 rfl rfl rfl (Nat.le_of_ble_eq_true rfl) (Nat.le_of_ble_eq_true rfl) rfl (Nat.le_of_ble_eq_true rfl) rfl rfl g1 g2 k
theorem bL_law_979 {d : Nat} {h : HP} {Q : Out → HP → Prop} {v0 : Nat} {v1 : Nat} {v2 : Nat} {v3 : Nat} {v4 : Nat} {v5 : Int32} {v6 : Int32} {v7 : Int32} {s0 : Int32} (k : ((s0 = v6) → ((¬ v6 = 0) → WP d mL_law 28 [some (.ref v0), some (.ref v1), some (.ref v2), some (.ref v3), some (.ref v4), some (.int (v5 + (5 : Int32))), some (.int v6), some (.int v7)] [] h Q) ∧ ((¬ (¬ v6 = 0)) → (hK h v3 = 23) ∧ ((inA h v3 (0 : Int32) = true) ∧ ((((lg_cmp (hAL h v3 ((0 : Int32)).toNatClampNeg) (Int32.toInt64 v7)) = 0) → WP d mL_law 28 [some (.ref v0), some (.ref v1), some (.ref v2), some (.ref v3), some (.ref v4), some (.int (v5 + (5 : Int32))), some (.int v6), some (.int v7)] [] h Q) ∧ ((¬ ((lg_cmp (hAL h v3 ((0 : Int32)).toNatClampNeg) (Int32.toInt64 v7)) = 0)) → Q (.inl (some (.int (0 : Int32)))) h))))) ∧ ((¬ (s0 = v6)) → Q (.inl (some (.int (0 : Int32)))) h)) : WP d mL_law 979 [some (.ref v0), some (.ref v1), some (.ref v2), some (.ref v3), some (.ref v4), some (.int v5), some (.int v6), some (.int v7)] [.int s0] h Q := by
  refine w_iload dL_law_979 rfl ?_
  refine w_ic_eq (pc' := 986) dL_law_981 rfl rfl ⟨fun c => ?_, fun c => ?_⟩
  · replace k := k.1 c
    refine w_iload dL_law_986 rfl ?_
    refine w_if_ne (pc' := 1003) dL_law_988 rfl rfl ⟨fun c => ?_, fun c => ?_⟩
    · replace k := k.1 c
      refine w_goto (pc' := 1684) dL_law_1003 rfl rfl ?_
      refine w_iinc (lo' := [some (.ref v0), some (.ref v1), some (.ref v2), some (.ref v3), some (.ref v4), some (.int (v5 + (5 : Int32))), some (.int v6), some (.int v7)]) dL_law_1684 rfl i1_5 rfl ?_
      refine w_goto (pc' := 28) dL_law_1687 rfl rfl ?_
      exact k
    · replace k := k.2 c
      refine w_aload_n dL_law_991 rfl ?_
      refine w_iconst dL_law_992 i1_0 ?_
      obtain ⟨g1, k⟩ := k
      obtain ⟨g2, k⟩ := k
      refine w_laload dL_law_993 g1 g2 ?_
      refine w_iload dL_law_994 rfl ?_
      refine w_i2l dL_law_996 ?_
      refine w_lcmp dL_law_997 ?_
      refine w_if_eq (pc' := 1003) dL_law_998 rfl rfl ⟨fun c => ?_, fun c => ?_⟩
      · replace k := k.1 c
        refine w_goto (pc' := 1684) dL_law_1003 rfl rfl ?_
        refine w_iinc (lo' := [some (.ref v0), some (.ref v1), some (.ref v2), some (.ref v3), some (.ref v4), some (.int (v5 + (5 : Int32))), some (.int v6), some (.int v7)]) dL_law_1684 rfl i1_5 rfl ?_
        refine w_goto (pc' := 28) dL_law_1687 rfl rfl ?_
        exact k
      · replace k := k.2 c
        refine w_iconst dL_law_1001 i1_0 ?_
        exact w_ireturn dL_law_1002 rfl k
  · replace k := k.2 c
    refine w_iconst dL_law_984 i1_0 ?_
    exact w_ireturn dL_law_985 rfl k
theorem bL_law_1029 {d : Nat} {h : HP} {Q : Out → HP → Prop} {v0 : Nat} {v1 : Nat} {v2 : Nat} {v3 : Nat} {v4 : Nat} {v5 : Int32} {u6 : Option Value} {u7 : Option Value} {s0 : Int32} (k : (hK h v0 = 19) ∧ ((inA h v0 (v5 + (1 : Int32)) = true) ∧ ((inA h v0 (v5 + (2 : Int32)) = true) ∧ ((inA h v0 (v5 + (3 : Int32)) = true) ∧ ((1 < v2) ∧ ((hK h v2 = 12) ∧ (WP d mX12_propose 0 [some (.ref v2), some (.int (hAI h v0 ((v5 + (1 : Int32))).toNatClampNeg)), some (.int (hAI h v0 ((v5 + (2 : Int32))).toNatClampNeg)), some (.int (hAI h v0 ((v5 + (3 : Int32))).toNatClampNeg)), none, none, none, none, none] [] h (KK d mL_law mX12_propose 1050 [some (.ref v0), some (.ref v1), some (.ref v2), some (.ref v3), some (.ref v4), some (.int v5), some (.int s0), u7] [] Q)))))))) : WP (d + 1) mL_law 1029 [some (.ref v0), some (.ref v1), some (.ref v2), some (.ref v3), some (.ref v4), some (.int v5), u6, u7] [.int s0] h Q := by
  refine w_istore (lo' := [some (.ref v0), some (.ref v1), some (.ref v2), some (.ref v3), some (.ref v4), some (.int v5), some (.int s0), u7]) dL_law_1029 (ltQ rfl) rfl ?_
  refine w_aload_n dL_law_1031 rfl ?_
  refine w_aload_n dL_law_1032 rfl ?_
  refine w_iload dL_law_1033 rfl ?_
  refine w_iconst dL_law_1035 i1_1 ?_
  refine w_iadd dL_law_1036 ?_
  obtain ⟨g1, k⟩ := k
  obtain ⟨g2, k⟩ := k
  refine w_iaload19 dL_law_1037 g1 g2 ?_
  refine w_aload_n dL_law_1038 rfl ?_
  refine w_iload dL_law_1039 rfl ?_
  refine w_iconst dL_law_1041 i1_2 ?_
  refine w_iadd dL_law_1042 ?_
  obtain ⟨g3, k⟩ := k
  refine w_iaload19 dL_law_1043 g1 g3 ?_
  refine w_aload_n dL_law_1044 rfl ?_
  refine w_iload dL_law_1045 rfl ?_
  refine w_iconst dL_law_1047 i1_3 ?_
  refine w_iadd dL_law_1048 ?_
  obtain ⟨g4, k⟩ := k
  refine w_iaload19 dL_law_1049 g1 g4 ?_
  obtain ⟨g5, k⟩ := k
  obtain ⟨g6, k⟩ := k
  exact w_virt (as1 := [.int (hAI h v0 ((v5 + (3 : Int32))).toNatClampNeg), .int (hAI h v0 ((v5 + (2 : Int32))).toNatClampNeg), .int (hAI h v0 ((v5 + (1 : Int32))).toNatClampNeg), .ref v2]) (as2 := [.ref v2, .int (hAI h v0 ((v5 + (1 : Int32))).toNatClampNeg), .int (hAI h v0 ((v5 + (2 : Int32))).toNatClampNeg), .int (hAI h v0 ((v5 + (3 : Int32))).toNatClampNeg)]) (rest := []) (lo2 := [some (.ref v2), some (.int (hAI h v0 ((v5 + (1 : Int32))).toNatClampNeg)), some (.int (hAI h v0 ((v5 + (2 : Int32))).toNatClampNeg)), some (.int (hAI h v0 ((v5 + (3 : Int32))).toNatClampNeg)), none, none, none, none, none]) dL_law_1050 c_13_145 rfl rfl rfl (Nat.le_of_ble_eq_true rfl) (Nat.le_of_ble_eq_true rfl) rfl (Nat.le_of_ble_eq_true rfl) rfl rfl g5 g6 k
theorem bL_law_1053 {d : Nat} {h : HP} {Q : Out → HP → Prop} {v0 : Nat} {v1 : Nat} {v2 : Nat} {v3 : Nat} {v4 : Nat} {v5 : Int32} {v6 : Int32} {u7 : Option Value} {s0 : Int32} (k : (1 < v2) ∧ ((hK h v2 = 12) ∧ (WP d mX12_thrown 0 [some (.ref v2)] [] h (KK d mL_law mX12_thrown 1056 [some (.ref v0), some (.ref v1), some (.ref v2), some (.ref v3), some (.ref v4), some (.int v5), some (.int v6), some (.int s0)] [] Q)))) : WP (d + 1) mL_law 1053 [some (.ref v0), some (.ref v1), some (.ref v2), some (.ref v3), some (.ref v4), some (.int v5), some (.int v6), u7] [.int s0] h Q := by
  refine w_istore (lo' := [some (.ref v0), some (.ref v1), some (.ref v2), some (.ref v3), some (.ref v4), some (.int v5), some (.int v6), some (.int s0)]) dL_law_1053 (ltQ rfl) rfl ?_
  refine w_aload_n dL_law_1055 rfl ?_
  obtain ⟨g1, k⟩ := k
  obtain ⟨g2, k⟩ := k
  exact w_virt (as1 := [.ref v2]) (as2 := [.ref v2]) (rest := []) (lo2 := [some (.ref v2)]) dL_law_1056 c_13_97 rfl rfl rfl (Nat.le_of_ble_eq_true rfl) (Nat.le_of_ble_eq_true rfl) rfl (Nat.le_of_ble_eq_true rfl) rfl rfl g1 g2 k
theorem bL_law_1059 {d : Nat} {h : HP} {Q : Out → HP → Prop} {v0 : Nat} {v1 : Nat} {v2 : Nat} {v3 : Nat} {v4 : Nat} {v5 : Int32} {v6 : Int32} {v7 : Int32} {s0 : Int32} (k : ((s0 = v6) → ((¬ v6 = 0) → WP d mL_law 28 [some (.ref v0), some (.ref v1), some (.ref v2), some (.ref v3), some (.ref v4), some (.int (v5 + (5 : Int32))), some (.int v6), some (.int v7)] [] h Q) ∧ ((¬ (¬ v6 = 0)) → (hK h v3 = 23) ∧ ((inA h v3 (0 : Int32) = true) ∧ ((((lg_cmp (hAL h v3 ((0 : Int32)).toNatClampNeg) (Int32.toInt64 v7)) = 0) → WP d mL_law 28 [some (.ref v0), some (.ref v1), some (.ref v2), some (.ref v3), some (.ref v4), some (.int (v5 + (5 : Int32))), some (.int v6), some (.int v7)] [] h Q) ∧ ((¬ ((lg_cmp (hAL h v3 ((0 : Int32)).toNatClampNeg) (Int32.toInt64 v7)) = 0)) → Q (.inl (some (.int (0 : Int32)))) h))))) ∧ ((¬ (s0 = v6)) → Q (.inl (some (.int (0 : Int32)))) h)) : WP d mL_law 1059 [some (.ref v0), some (.ref v1), some (.ref v2), some (.ref v3), some (.ref v4), some (.int v5), some (.int v6), some (.int v7)] [.int s0] h Q := by
  refine w_iload dL_law_1059 rfl ?_
  refine w_ic_eq (pc' := 1066) dL_law_1061 rfl rfl ⟨fun c => ?_, fun c => ?_⟩
  · replace k := k.1 c
    refine w_iload dL_law_1066 rfl ?_
    refine w_if_ne (pc' := 1083) dL_law_1068 rfl rfl ⟨fun c => ?_, fun c => ?_⟩
    · replace k := k.1 c
      refine w_goto (pc' := 1684) dL_law_1083 rfl rfl ?_
      refine w_iinc (lo' := [some (.ref v0), some (.ref v1), some (.ref v2), some (.ref v3), some (.ref v4), some (.int (v5 + (5 : Int32))), some (.int v6), some (.int v7)]) dL_law_1684 rfl i1_5 rfl ?_
      refine w_goto (pc' := 28) dL_law_1687 rfl rfl ?_
      exact k
    · replace k := k.2 c
      refine w_aload_n dL_law_1071 rfl ?_
      refine w_iconst dL_law_1072 i1_0 ?_
      obtain ⟨g1, k⟩ := k
      obtain ⟨g2, k⟩ := k
      refine w_laload dL_law_1073 g1 g2 ?_
      refine w_iload dL_law_1074 rfl ?_
      refine w_i2l dL_law_1076 ?_
      refine w_lcmp dL_law_1077 ?_
      refine w_if_eq (pc' := 1083) dL_law_1078 rfl rfl ⟨fun c => ?_, fun c => ?_⟩
      · replace k := k.1 c
        refine w_goto (pc' := 1684) dL_law_1083 rfl rfl ?_
        refine w_iinc (lo' := [some (.ref v0), some (.ref v1), some (.ref v2), some (.ref v3), some (.ref v4), some (.int (v5 + (5 : Int32))), some (.int v6), some (.int v7)]) dL_law_1684 rfl i1_5 rfl ?_
        refine w_goto (pc' := 28) dL_law_1687 rfl rfl ?_
        exact k
      · replace k := k.2 c
        refine w_iconst dL_law_1081 i1_0 ?_
        exact w_ireturn dL_law_1082 rfl k
  · replace k := k.2 c
    refine w_iconst dL_law_1064 i1_0 ?_
    exact w_ireturn dL_law_1065 rfl k
theorem bL_law_1090 {d : Nat} {h : HP} {Q : Out → HP → Prop} {v0 : Nat} {v1 : Nat} {v2 : Nat} {v3 : Nat} {v4 : Nat} {v5 : Int32} {u6 : Option Value} {u7 : Option Value} {s0 : Int32} (k : (1 < v2) ∧ ((hK h v2 = 12) ∧ (WP d mX12_steps 0 [some (.ref v2)] [] h (KK d mL_law mX12_steps 1091 [some (.ref v0), some (.ref v1), some (.ref v2), some (.ref v3), some (.ref v4), some (.int v5), u6, u7] [.int s0] Q)))) : WP (d + 1) mL_law 1090 [some (.ref v0), some (.ref v1), some (.ref v2), some (.ref v3), some (.ref v4), some (.int v5), u6, u7] [.int s0] h Q := by
  refine w_aload_n dL_law_1090 rfl ?_
  obtain ⟨g1, k⟩ := k
  obtain ⟨g2, k⟩ := k
  exact w_virt (as1 := [.ref v2]) (as2 := [.ref v2]) (rest := [.int s0]) (lo2 := [some (.ref v2)]) dL_law_1091 c_13_149 rfl rfl rfl (Nat.le_of_ble_eq_true rfl) (Nat.le_of_ble_eq_true rfl) rfl (Nat.le_of_ble_eq_true rfl) rfl rfl g1 g2 k
theorem bL_law_1094 {d : Nat} {h : HP} {Q : Out → HP → Prop} {v0 : Nat} {v1 : Nat} {v2 : Nat} {v3 : Nat} {v4 : Nat} {v5 : Int32} {u6 : Option Value} {u7 : Option Value} {s0 : Int32} {s1 : Int32} (k : ((s1 = s0) → WP d mL_law 28 [some (.ref v0), some (.ref v1), some (.ref v2), some (.ref v3), some (.ref v4), some (.int (v5 + (5 : Int32))), u6, u7] [] h Q) ∧ ((¬ (s1 = s0)) → Q (.inl (some (.int (0 : Int32)))) h)) : WP d mL_law 1094 [some (.ref v0), some (.ref v1), some (.ref v2), some (.ref v3), some (.ref v4), some (.int v5), u6, u7] [.int s0, .int s1] h Q := by
  refine w_ic_eq (pc' := 1684) dL_law_1094 rfl rfl ⟨fun c => ?_, fun c => ?_⟩
  · replace k := k.1 c
    refine w_iinc (lo' := [some (.ref v0), some (.ref v1), some (.ref v2), some (.ref v3), some (.ref v4), some (.int (v5 + (5 : Int32))), u6, u7]) dL_law_1684 rfl i1_5 rfl ?_
    refine w_goto (pc' := 28) dL_law_1687 rfl rfl ?_
    exact k
  · replace k := k.2 c
    refine w_iconst dL_law_1097 i1_0 ?_
    exact w_ireturn dL_law_1098 rfl k
theorem bL_law_1103 {d : Nat} {h : HP} {Q : Out → HP → Prop} {v0 : Nat} {v1 : Nat} {v2 : Nat} {v3 : Nat} {v4 : Nat} {v5 : Int32} {u6 : Option Value} {u7 : Option Value} {s0 : Int32} (k : (1 < v2) ∧ ((hK h v2 = 12) ∧ (WP d mX12_messages 0 [some (.ref v2)] [] h (KK d mL_law mX12_messages 1104 [some (.ref v0), some (.ref v1), some (.ref v2), some (.ref v3), some (.ref v4), some (.int v5), u6, u7] [.int s0] Q)))) : WP (d + 1) mL_law 1103 [some (.ref v0), some (.ref v1), some (.ref v2), some (.ref v3), some (.ref v4), some (.int v5), u6, u7] [.int s0] h Q := by
  refine w_aload_n dL_law_1103 rfl ?_
  obtain ⟨g1, k⟩ := k
  obtain ⟨g2, k⟩ := k
  exact w_virt (as1 := [.ref v2]) (as2 := [.ref v2]) (rest := [.int s0]) (lo2 := [some (.ref v2)]) dL_law_1104 c_13_153 rfl rfl rfl (Nat.le_of_ble_eq_true rfl) (Nat.le_of_ble_eq_true rfl) rfl (Nat.le_of_ble_eq_true rfl) rfl rfl g1 g2 k
theorem bL_law_1107 {d : Nat} {h : HP} {Q : Out → HP → Prop} {v0 : Nat} {v1 : Nat} {v2 : Nat} {v3 : Nat} {v4 : Nat} {v5 : Int32} {u6 : Option Value} {u7 : Option Value} {s0 : Int32} {s1 : Int32} (k : ((s1 = s0) → WP d mL_law 28 [some (.ref v0), some (.ref v1), some (.ref v2), some (.ref v3), some (.ref v4), some (.int (v5 + (5 : Int32))), u6, u7] [] h Q) ∧ ((¬ (s1 = s0)) → Q (.inl (some (.int (0 : Int32)))) h)) : WP d mL_law 1107 [some (.ref v0), some (.ref v1), some (.ref v2), some (.ref v3), some (.ref v4), some (.int v5), u6, u7] [.int s0, .int s1] h Q := by
  refine w_ic_eq (pc' := 1684) dL_law_1107 rfl rfl ⟨fun c => ?_, fun c => ?_⟩
  · replace k := k.1 c
    refine w_iinc (lo' := [some (.ref v0), some (.ref v1), some (.ref v2), some (.ref v3), some (.ref v4), some (.int (v5 + (5 : Int32))), u6, u7]) dL_law_1684 rfl i1_5 rfl ?_
    refine w_goto (pc' := 28) dL_law_1687 rfl rfl ?_
    exact k
  · replace k := k.2 c
    refine w_iconst dL_law_1110 i1_0 ?_
    exact w_ireturn dL_law_1111 rfl k
theorem bL_law_1129 {d : Nat} {h : HP} {Q : Out → HP → Prop} {v0 : Nat} {v1 : Nat} {v2 : Nat} {v3 : Nat} {v4 : Nat} {v5 : Int32} {u6 : Option Value} {u7 : Option Value} {s0 : Int32} (k : (hK h v0 = 19) ∧ ((inA h v0 (v5 + (1 : Int32)) = true) ∧ ((inA h v0 (v5 + (2 : Int32)) = true) ∧ ((1 < v2) ∧ ((hK h v2 = 12) ∧ (WP d mX12_message 0 [some (.ref v2), some (.int (hAI h v0 ((v5 + (1 : Int32))).toNatClampNeg)), some (.int (hAI h v0 ((v5 + (2 : Int32))).toNatClampNeg)), none] [] h (KK d mL_law mX12_message 1144 [some (.ref v0), some (.ref v1), some (.ref v2), some (.ref v3), some (.ref v4), some (.int v5), some (.int s0), u7] [] Q))))))) : WP (d + 1) mL_law 1129 [some (.ref v0), some (.ref v1), some (.ref v2), some (.ref v3), some (.ref v4), some (.int v5), u6, u7] [.int s0] h Q := by
  refine w_istore (lo' := [some (.ref v0), some (.ref v1), some (.ref v2), some (.ref v3), some (.ref v4), some (.int v5), some (.int s0), u7]) dL_law_1129 (ltQ rfl) rfl ?_
  refine w_aload_n dL_law_1131 rfl ?_
  refine w_aload_n dL_law_1132 rfl ?_
  refine w_iload dL_law_1133 rfl ?_
  refine w_iconst dL_law_1135 i1_1 ?_
  refine w_iadd dL_law_1136 ?_
  obtain ⟨g1, k⟩ := k
  obtain ⟨g2, k⟩ := k
  refine w_iaload19 dL_law_1137 g1 g2 ?_
  refine w_aload_n dL_law_1138 rfl ?_
  refine w_iload dL_law_1139 rfl ?_
  refine w_iconst dL_law_1141 i1_2 ?_
  refine w_iadd dL_law_1142 ?_
  obtain ⟨g3, k⟩ := k
  refine w_iaload19 dL_law_1143 g1 g3 ?_
  obtain ⟨g4, k⟩ := k
  obtain ⟨g5, k⟩ := k
  exact w_virt (as1 := [.int (hAI h v0 ((v5 + (2 : Int32))).toNatClampNeg), .int (hAI h v0 ((v5 + (1 : Int32))).toNatClampNeg), .ref v2]) (as2 := [.ref v2, .int (hAI h v0 ((v5 + (1 : Int32))).toNatClampNeg), .int (hAI h v0 ((v5 + (2 : Int32))).toNatClampNeg)]) (rest := []) (lo2 := [some (.ref v2), some (.int (hAI h v0 ((v5 + (1 : Int32))).toNatClampNeg)), some (.int (hAI h v0 ((v5 + (2 : Int32))).toNatClampNeg)), none]) dL_law_1144 c_13_156 rfl rfl rfl (Nat.le_of_ble_eq_true rfl) (Nat.le_of_ble_eq_true rfl) rfl (Nat.le_of_ble_eq_true rfl) rfl rfl g4 g5 k
theorem bL_law_1147 {d : Nat} {h : HP} {Q : Out → HP → Prop} {v0 : Nat} {v1 : Nat} {v2 : Nat} {v3 : Nat} {v4 : Nat} {v5 : Int32} {v6 : Int32} {u7 : Option Value} {s0 : Int32} (k : (1 < v2) ∧ ((hK h v2 = 12) ∧ (WP d mX12_thrown 0 [some (.ref v2)] [] h (KK d mL_law mX12_thrown 1150 [some (.ref v0), some (.ref v1), some (.ref v2), some (.ref v3), some (.ref v4), some (.int v5), some (.int v6), some (.int s0)] [] Q)))) : WP (d + 1) mL_law 1147 [some (.ref v0), some (.ref v1), some (.ref v2), some (.ref v3), some (.ref v4), some (.int v5), some (.int v6), u7] [.int s0] h Q := by
  refine w_istore (lo' := [some (.ref v0), some (.ref v1), some (.ref v2), some (.ref v3), some (.ref v4), some (.int v5), some (.int v6), some (.int s0)]) dL_law_1147 (ltQ rfl) rfl ?_
  refine w_aload_n dL_law_1149 rfl ?_
  obtain ⟨g1, k⟩ := k
  obtain ⟨g2, k⟩ := k
  exact w_virt (as1 := [.ref v2]) (as2 := [.ref v2]) (rest := []) (lo2 := [some (.ref v2)]) dL_law_1150 c_13_97 rfl rfl rfl (Nat.le_of_ble_eq_true rfl) (Nat.le_of_ble_eq_true rfl) rfl (Nat.le_of_ble_eq_true rfl) rfl rfl g1 g2 k
theorem bL_law_1153 {d : Nat} {h : HP} {Q : Out → HP → Prop} {v0 : Nat} {v1 : Nat} {v2 : Nat} {v3 : Nat} {v4 : Nat} {v5 : Int32} {v6 : Int32} {v7 : Int32} {s0 : Int32} (k : ((s0 = v6) → ((¬ v6 = 0) → WP d mL_law 28 [some (.ref v0), some (.ref v1), some (.ref v2), some (.ref v3), some (.ref v4), some (.int (v5 + (5 : Int32))), some (.int v6), some (.int v7)] [] h Q) ∧ ((¬ (¬ v6 = 0)) → (hK h v3 = 23) ∧ ((inA h v3 (0 : Int32) = true) ∧ ((((lg_cmp (hAL h v3 ((0 : Int32)).toNatClampNeg) (Int32.toInt64 v7)) = 0) → WP d mL_law 28 [some (.ref v0), some (.ref v1), some (.ref v2), some (.ref v3), some (.ref v4), some (.int (v5 + (5 : Int32))), some (.int v6), some (.int v7)] [] h Q) ∧ ((¬ ((lg_cmp (hAL h v3 ((0 : Int32)).toNatClampNeg) (Int32.toInt64 v7)) = 0)) → Q (.inl (some (.int (0 : Int32)))) h))))) ∧ ((¬ (s0 = v6)) → Q (.inl (some (.int (0 : Int32)))) h)) : WP d mL_law 1153 [some (.ref v0), some (.ref v1), some (.ref v2), some (.ref v3), some (.ref v4), some (.int v5), some (.int v6), some (.int v7)] [.int s0] h Q := by
  refine w_iload dL_law_1153 rfl ?_
  refine w_ic_eq (pc' := 1160) dL_law_1155 rfl rfl ⟨fun c => ?_, fun c => ?_⟩
  · replace k := k.1 c
    refine w_iload dL_law_1160 rfl ?_
    refine w_if_ne (pc' := 1177) dL_law_1162 rfl rfl ⟨fun c => ?_, fun c => ?_⟩
    · replace k := k.1 c
      refine w_goto (pc' := 1684) dL_law_1177 rfl rfl ?_
      refine w_iinc (lo' := [some (.ref v0), some (.ref v1), some (.ref v2), some (.ref v3), some (.ref v4), some (.int (v5 + (5 : Int32))), some (.int v6), some (.int v7)]) dL_law_1684 rfl i1_5 rfl ?_
      refine w_goto (pc' := 28) dL_law_1687 rfl rfl ?_
      exact k
    · replace k := k.2 c
      refine w_aload_n dL_law_1165 rfl ?_
      refine w_iconst dL_law_1166 i1_0 ?_
      obtain ⟨g1, k⟩ := k
      obtain ⟨g2, k⟩ := k
      refine w_laload dL_law_1167 g1 g2 ?_
      refine w_iload dL_law_1168 rfl ?_
      refine w_i2l dL_law_1170 ?_
      refine w_lcmp dL_law_1171 ?_
      refine w_if_eq (pc' := 1177) dL_law_1172 rfl rfl ⟨fun c => ?_, fun c => ?_⟩
      · replace k := k.1 c
        refine w_goto (pc' := 1684) dL_law_1177 rfl rfl ?_
        refine w_iinc (lo' := [some (.ref v0), some (.ref v1), some (.ref v2), some (.ref v3), some (.ref v4), some (.int (v5 + (5 : Int32))), some (.int v6), some (.int v7)]) dL_law_1684 rfl i1_5 rfl ?_
        refine w_goto (pc' := 28) dL_law_1687 rfl rfl ?_
        exact k
      · replace k := k.2 c
        refine w_iconst dL_law_1175 i1_0 ?_
        exact w_ireturn dL_law_1176 rfl k
  · replace k := k.2 c
    refine w_iconst dL_law_1158 i1_0 ?_
    exact w_ireturn dL_law_1159 rfl k
theorem bL_law_1197 {d : Nat} {h : HP} {Q : Out → HP → Prop} {v0 : Nat} {v1 : Nat} {v2 : Nat} {v3 : Nat} {v4 : Nat} {v5 : Int32} {u6 : Option Value} {u7 : Option Value} {s0 : Int32} (k : (hK h v0 = 19) ∧ ((inA h v0 (v5 + (1 : Int32)) = true) ∧ ((inA h v0 (v5 + (2 : Int32)) = true) ∧ ((1 < v2) ∧ ((hK h v2 = 12) ∧ (WP d mX12_of 0 [some (.ref v2), some (.int (hAI h v0 ((v5 + (1 : Int32))).toNatClampNeg)), some (.int (hAI h v0 ((v5 + (2 : Int32))).toNatClampNeg)), none] [] h (KK d mL_law mX12_of 1212 [some (.ref v0), some (.ref v1), some (.ref v2), some (.ref v3), some (.ref v4), some (.int v5), some (.int s0), u7] [] Q))))))) : WP (d + 1) mL_law 1197 [some (.ref v0), some (.ref v1), some (.ref v2), some (.ref v3), some (.ref v4), some (.int v5), u6, u7] [.int s0] h Q := by
  refine w_istore (lo' := [some (.ref v0), some (.ref v1), some (.ref v2), some (.ref v3), some (.ref v4), some (.int v5), some (.int s0), u7]) dL_law_1197 (ltQ rfl) rfl ?_
  refine w_aload_n dL_law_1199 rfl ?_
  refine w_aload_n dL_law_1200 rfl ?_
  refine w_iload dL_law_1201 rfl ?_
  refine w_iconst dL_law_1203 i1_1 ?_
  refine w_iadd dL_law_1204 ?_
  obtain ⟨g1, k⟩ := k
  obtain ⟨g2, k⟩ := k
  refine w_iaload19 dL_law_1205 g1 g2 ?_
  refine w_aload_n dL_law_1206 rfl ?_
  refine w_iload dL_law_1207 rfl ?_
  refine w_iconst dL_law_1209 i1_2 ?_
  refine w_iadd dL_law_1210 ?_
  obtain ⟨g3, k⟩ := k
  refine w_iaload19 dL_law_1211 g1 g3 ?_
  obtain ⟨g4, k⟩ := k
  obtain ⟨g5, k⟩ := k
  exact w_virt (as1 := [.int (hAI h v0 ((v5 + (2 : Int32))).toNatClampNeg), .int (hAI h v0 ((v5 + (1 : Int32))).toNatClampNeg), .ref v2]) (as2 := [.ref v2, .int (hAI h v0 ((v5 + (1 : Int32))).toNatClampNeg), .int (hAI h v0 ((v5 + (2 : Int32))).toNatClampNeg)]) (rest := []) (lo2 := [some (.ref v2), some (.int (hAI h v0 ((v5 + (1 : Int32))).toNatClampNeg)), some (.int (hAI h v0 ((v5 + (2 : Int32))).toNatClampNeg)), none]) dL_law_1212 c_13_159 rfl rfl rfl (Nat.le_of_ble_eq_true rfl) (Nat.le_of_ble_eq_true rfl) rfl (Nat.le_of_ble_eq_true rfl) rfl rfl g4 g5 k
theorem bL_law_1215 {d : Nat} {h : HP} {Q : Out → HP → Prop} {v0 : Nat} {v1 : Nat} {v2 : Nat} {v3 : Nat} {v4 : Nat} {v5 : Int32} {v6 : Int32} {u7 : Option Value} {s0 : Int32} (k : (1 < v2) ∧ ((hK h v2 = 12) ∧ (WP d mX12_thrown 0 [some (.ref v2)] [] h (KK d mL_law mX12_thrown 1218 [some (.ref v0), some (.ref v1), some (.ref v2), some (.ref v3), some (.ref v4), some (.int v5), some (.int v6), some (.int s0)] [] Q)))) : WP (d + 1) mL_law 1215 [some (.ref v0), some (.ref v1), some (.ref v2), some (.ref v3), some (.ref v4), some (.int v5), some (.int v6), u7] [.int s0] h Q := by
  refine w_istore (lo' := [some (.ref v0), some (.ref v1), some (.ref v2), some (.ref v3), some (.ref v4), some (.int v5), some (.int v6), some (.int s0)]) dL_law_1215 (ltQ rfl) rfl ?_
  refine w_aload_n dL_law_1217 rfl ?_
  obtain ⟨g1, k⟩ := k
  obtain ⟨g2, k⟩ := k
  exact w_virt (as1 := [.ref v2]) (as2 := [.ref v2]) (rest := []) (lo2 := [some (.ref v2)]) dL_law_1218 c_13_97 rfl rfl rfl (Nat.le_of_ble_eq_true rfl) (Nat.le_of_ble_eq_true rfl) rfl (Nat.le_of_ble_eq_true rfl) rfl rfl g1 g2 k
theorem bL_law_1221 {d : Nat} {h : HP} {Q : Out → HP → Prop} {v0 : Nat} {v1 : Nat} {v2 : Nat} {v3 : Nat} {v4 : Nat} {v5 : Int32} {v6 : Int32} {v7 : Int32} {s0 : Int32} (k : ((s0 = v6) → ((¬ v6 = 0) → WP d mL_law 28 [some (.ref v0), some (.ref v1), some (.ref v2), some (.ref v3), some (.ref v4), some (.int (v5 + (5 : Int32))), some (.int v6), some (.int v7)] [] h Q) ∧ ((¬ (¬ v6 = 0)) → (hK h v3 = 23) ∧ ((inA h v3 (0 : Int32) = true) ∧ ((((lg_cmp (hAL h v3 ((0 : Int32)).toNatClampNeg) (Int32.toInt64 v7)) = 0) → WP d mL_law 28 [some (.ref v0), some (.ref v1), some (.ref v2), some (.ref v3), some (.ref v4), some (.int (v5 + (5 : Int32))), some (.int v6), some (.int v7)] [] h Q) ∧ ((¬ ((lg_cmp (hAL h v3 ((0 : Int32)).toNatClampNeg) (Int32.toInt64 v7)) = 0)) → Q (.inl (some (.int (0 : Int32)))) h))))) ∧ ((¬ (s0 = v6)) → Q (.inl (some (.int (0 : Int32)))) h)) : WP d mL_law 1221 [some (.ref v0), some (.ref v1), some (.ref v2), some (.ref v3), some (.ref v4), some (.int v5), some (.int v6), some (.int v7)] [.int s0] h Q := by
  refine w_iload dL_law_1221 rfl ?_
  refine w_ic_eq (pc' := 1228) dL_law_1223 rfl rfl ⟨fun c => ?_, fun c => ?_⟩
  · replace k := k.1 c
    refine w_iload dL_law_1228 rfl ?_
    refine w_if_ne (pc' := 1245) dL_law_1230 rfl rfl ⟨fun c => ?_, fun c => ?_⟩
    · replace k := k.1 c
      refine w_goto (pc' := 1684) dL_law_1245 rfl rfl ?_
      refine w_iinc (lo' := [some (.ref v0), some (.ref v1), some (.ref v2), some (.ref v3), some (.ref v4), some (.int (v5 + (5 : Int32))), some (.int v6), some (.int v7)]) dL_law_1684 rfl i1_5 rfl ?_
      refine w_goto (pc' := 28) dL_law_1687 rfl rfl ?_
      exact k
    · replace k := k.2 c
      refine w_aload_n dL_law_1233 rfl ?_
      refine w_iconst dL_law_1234 i1_0 ?_
      obtain ⟨g1, k⟩ := k
      obtain ⟨g2, k⟩ := k
      refine w_laload dL_law_1235 g1 g2 ?_
      refine w_iload dL_law_1236 rfl ?_
      refine w_i2l dL_law_1238 ?_
      refine w_lcmp dL_law_1239 ?_
      refine w_if_eq (pc' := 1245) dL_law_1240 rfl rfl ⟨fun c => ?_, fun c => ?_⟩
      · replace k := k.1 c
        refine w_goto (pc' := 1684) dL_law_1245 rfl rfl ?_
        refine w_iinc (lo' := [some (.ref v0), some (.ref v1), some (.ref v2), some (.ref v3), some (.ref v4), some (.int (v5 + (5 : Int32))), some (.int v6), some (.int v7)]) dL_law_1684 rfl i1_5 rfl ?_
        refine w_goto (pc' := 28) dL_law_1687 rfl rfl ?_
        exact k
      · replace k := k.2 c
        refine w_iconst dL_law_1243 i1_0 ?_
        exact w_ireturn dL_law_1244 rfl k
  · replace k := k.2 c
    refine w_iconst dL_law_1226 i1_0 ?_
    exact w_ireturn dL_law_1227 rfl k
theorem bL_law_1271 {d : Nat} {h : HP} {Q : Out → HP → Prop} {v0 : Nat} {v1 : Nat} {v2 : Nat} {v3 : Nat} {v4 : Nat} {v5 : Int32} {u6 : Option Value} {u7 : Option Value} {s0 : Int32} (k : (hK h v0 = 19) ∧ ((inA h v0 (v5 + (1 : Int32)) = true) ∧ ((inA h v0 (v5 + (2 : Int32)) = true) ∧ ((inA h v0 (v5 + (3 : Int32)) = true) ∧ ((1 < v2) ∧ ((hK h v2 = 12) ∧ (WP d mX12_entry 0 [some (.ref v2), some (.int (hAI h v0 ((v5 + (1 : Int32))).toNatClampNeg)), some (.int (hAI h v0 ((v5 + (2 : Int32))).toNatClampNeg)), some (.int (hAI h v0 ((v5 + (3 : Int32))).toNatClampNeg)), none, none] [] h (KK d mL_law mX12_entry 1292 [some (.ref v0), some (.ref v1), some (.ref v2), some (.ref v3), some (.ref v4), some (.int v5), some (.int s0), u7] [] Q)))))))) : WP (d + 1) mL_law 1271 [some (.ref v0), some (.ref v1), some (.ref v2), some (.ref v3), some (.ref v4), some (.int v5), u6, u7] [.int s0] h Q := by
  refine w_istore (lo' := [some (.ref v0), some (.ref v1), some (.ref v2), some (.ref v3), some (.ref v4), some (.int v5), some (.int s0), u7]) dL_law_1271 (ltQ rfl) rfl ?_
  refine w_aload_n dL_law_1273 rfl ?_
  refine w_aload_n dL_law_1274 rfl ?_
  refine w_iload dL_law_1275 rfl ?_
  refine w_iconst dL_law_1277 i1_1 ?_
  refine w_iadd dL_law_1278 ?_
  obtain ⟨g1, k⟩ := k
  obtain ⟨g2, k⟩ := k
  refine w_iaload19 dL_law_1279 g1 g2 ?_
  refine w_aload_n dL_law_1280 rfl ?_
  refine w_iload dL_law_1281 rfl ?_
  refine w_iconst dL_law_1283 i1_2 ?_
  refine w_iadd dL_law_1284 ?_
  obtain ⟨g3, k⟩ := k
  refine w_iaload19 dL_law_1285 g1 g3 ?_
  refine w_aload_n dL_law_1286 rfl ?_
  refine w_iload dL_law_1287 rfl ?_
  refine w_iconst dL_law_1289 i1_3 ?_
  refine w_iadd dL_law_1290 ?_
  obtain ⟨g4, k⟩ := k
  refine w_iaload19 dL_law_1291 g1 g4 ?_
  obtain ⟨g5, k⟩ := k
  obtain ⟨g6, k⟩ := k
  exact w_virt (as1 := [.int (hAI h v0 ((v5 + (3 : Int32))).toNatClampNeg), .int (hAI h v0 ((v5 + (2 : Int32))).toNatClampNeg), .int (hAI h v0 ((v5 + (1 : Int32))).toNatClampNeg), .ref v2]) (as2 := [.ref v2, .int (hAI h v0 ((v5 + (1 : Int32))).toNatClampNeg), .int (hAI h v0 ((v5 + (2 : Int32))).toNatClampNeg), .int (hAI h v0 ((v5 + (3 : Int32))).toNatClampNeg)]) (rest := []) (lo2 := [some (.ref v2), some (.int (hAI h v0 ((v5 + (1 : Int32))).toNatClampNeg)), some (.int (hAI h v0 ((v5 + (2 : Int32))).toNatClampNeg)), some (.int (hAI h v0 ((v5 + (3 : Int32))).toNatClampNeg)), none, none]) dL_law_1292 c_13_162 rfl rfl rfl (Nat.le_of_ble_eq_true rfl) (Nat.le_of_ble_eq_true rfl) rfl (Nat.le_of_ble_eq_true rfl) rfl rfl g5 g6 k
theorem bL_law_1295 {d : Nat} {h : HP} {Q : Out → HP → Prop} {v0 : Nat} {v1 : Nat} {v2 : Nat} {v3 : Nat} {v4 : Nat} {v5 : Int32} {v6 : Int32} {u7 : Option Value} {s0 : Int32} (k : (1 < v2) ∧ ((hK h v2 = 12) ∧ (WP d mX12_thrown 0 [some (.ref v2)] [] h (KK d mL_law mX12_thrown 1298 [some (.ref v0), some (.ref v1), some (.ref v2), some (.ref v3), some (.ref v4), some (.int v5), some (.int v6), some (.int s0)] [] Q)))) : WP (d + 1) mL_law 1295 [some (.ref v0), some (.ref v1), some (.ref v2), some (.ref v3), some (.ref v4), some (.int v5), some (.int v6), u7] [.int s0] h Q := by
  refine w_istore (lo' := [some (.ref v0), some (.ref v1), some (.ref v2), some (.ref v3), some (.ref v4), some (.int v5), some (.int v6), some (.int s0)]) dL_law_1295 (ltQ rfl) rfl ?_
  refine w_aload_n dL_law_1297 rfl ?_
  obtain ⟨g1, k⟩ := k
  obtain ⟨g2, k⟩ := k
  exact w_virt (as1 := [.ref v2]) (as2 := [.ref v2]) (rest := []) (lo2 := [some (.ref v2)]) dL_law_1298 c_13_97 rfl rfl rfl (Nat.le_of_ble_eq_true rfl) (Nat.le_of_ble_eq_true rfl) rfl (Nat.le_of_ble_eq_true rfl) rfl rfl g1 g2 k
theorem bL_law_1301 {d : Nat} {h : HP} {Q : Out → HP → Prop} {v0 : Nat} {v1 : Nat} {v2 : Nat} {v3 : Nat} {v4 : Nat} {v5 : Int32} {v6 : Int32} {v7 : Int32} {s0 : Int32} (k : ((s0 = v6) → ((¬ v6 = 0) → WP d mL_law 28 [some (.ref v0), some (.ref v1), some (.ref v2), some (.ref v3), some (.ref v4), some (.int (v5 + (5 : Int32))), some (.int v6), some (.int v7)] [] h Q) ∧ ((¬ (¬ v6 = 0)) → (hK h v3 = 23) ∧ ((inA h v3 (0 : Int32) = true) ∧ ((((lg_cmp (hAL h v3 ((0 : Int32)).toNatClampNeg) (Int32.toInt64 v7)) = 0) → WP d mL_law 28 [some (.ref v0), some (.ref v1), some (.ref v2), some (.ref v3), some (.ref v4), some (.int (v5 + (5 : Int32))), some (.int v6), some (.int v7)] [] h Q) ∧ ((¬ ((lg_cmp (hAL h v3 ((0 : Int32)).toNatClampNeg) (Int32.toInt64 v7)) = 0)) → Q (.inl (some (.int (0 : Int32)))) h))))) ∧ ((¬ (s0 = v6)) → Q (.inl (some (.int (0 : Int32)))) h)) : WP d mL_law 1301 [some (.ref v0), some (.ref v1), some (.ref v2), some (.ref v3), some (.ref v4), some (.int v5), some (.int v6), some (.int v7)] [.int s0] h Q := by
  refine w_iload dL_law_1301 rfl ?_
  refine w_ic_eq (pc' := 1308) dL_law_1303 rfl rfl ⟨fun c => ?_, fun c => ?_⟩
  · replace k := k.1 c
    refine w_iload dL_law_1308 rfl ?_
    refine w_if_ne (pc' := 1325) dL_law_1310 rfl rfl ⟨fun c => ?_, fun c => ?_⟩
    · replace k := k.1 c
      refine w_goto (pc' := 1684) dL_law_1325 rfl rfl ?_
      refine w_iinc (lo' := [some (.ref v0), some (.ref v1), some (.ref v2), some (.ref v3), some (.ref v4), some (.int (v5 + (5 : Int32))), some (.int v6), some (.int v7)]) dL_law_1684 rfl i1_5 rfl ?_
      refine w_goto (pc' := 28) dL_law_1687 rfl rfl ?_
      exact k
    · replace k := k.2 c
      refine w_aload_n dL_law_1313 rfl ?_
      refine w_iconst dL_law_1314 i1_0 ?_
      obtain ⟨g1, k⟩ := k
      obtain ⟨g2, k⟩ := k
      refine w_laload dL_law_1315 g1 g2 ?_
      refine w_iload dL_law_1316 rfl ?_
      refine w_i2l dL_law_1318 ?_
      refine w_lcmp dL_law_1319 ?_
      refine w_if_eq (pc' := 1325) dL_law_1320 rfl rfl ⟨fun c => ?_, fun c => ?_⟩
      · replace k := k.1 c
        refine w_goto (pc' := 1684) dL_law_1325 rfl rfl ?_
        refine w_iinc (lo' := [some (.ref v0), some (.ref v1), some (.ref v2), some (.ref v3), some (.ref v4), some (.int (v5 + (5 : Int32))), some (.int v6), some (.int v7)]) dL_law_1684 rfl i1_5 rfl ?_
        refine w_goto (pc' := 28) dL_law_1687 rfl rfl ?_
        exact k
      · replace k := k.2 c
        refine w_iconst dL_law_1323 i1_0 ?_
        exact w_ireturn dL_law_1324 rfl k
  · replace k := k.2 c
    refine w_iconst dL_law_1306 i1_0 ?_
    exact w_ireturn dL_law_1307 rfl k
theorem bL_law_1340 {d : Nat} {h : HP} {Q : Out → HP → Prop} {v0 : Nat} {v1 : Nat} {v2 : Nat} {v3 : Nat} {v4 : Nat} {v5 : Int32} {u6 : Option Value} {u7 : Option Value} {s0 : Int32} (k : (hK h v0 = 19) ∧ ((inA h v0 (v5 + (1 : Int32)) = true) ∧ ((1 < v2) ∧ ((hK h v2 = 12) ∧ (WP d mX12_clock 0 [some (.ref v2), some (.int (hAI h v0 ((v5 + (1 : Int32))).toNatClampNeg))] [] h (KK d mL_law mX12_clock 1349 [some (.ref v0), some (.ref v1), some (.ref v2), some (.ref v3), some (.ref v4), some (.int v5), some (.int s0), u7] [] Q)))))) : WP (d + 1) mL_law 1340 [some (.ref v0), some (.ref v1), some (.ref v2), some (.ref v3), some (.ref v4), some (.int v5), u6, u7] [.int s0] h Q := by
  refine w_istore (lo' := [some (.ref v0), some (.ref v1), some (.ref v2), some (.ref v3), some (.ref v4), some (.int v5), some (.int s0), u7]) dL_law_1340 (ltQ rfl) rfl ?_
  refine w_aload_n dL_law_1342 rfl ?_
  refine w_aload_n dL_law_1343 rfl ?_
  refine w_iload dL_law_1344 rfl ?_
  refine w_iconst dL_law_1346 i1_1 ?_
  refine w_iadd dL_law_1347 ?_
  obtain ⟨g1, k⟩ := k
  obtain ⟨g2, k⟩ := k
  refine w_iaload19 dL_law_1348 g1 g2 ?_
  obtain ⟨g3, k⟩ := k
  obtain ⟨g4, k⟩ := k
  exact w_virt (as1 := [.int (hAI h v0 ((v5 + (1 : Int32))).toNatClampNeg), .ref v2]) (as2 := [.ref v2, .int (hAI h v0 ((v5 + (1 : Int32))).toNatClampNeg)]) (rest := []) (lo2 := [some (.ref v2), some (.int (hAI h v0 ((v5 + (1 : Int32))).toNatClampNeg))]) dL_law_1349 c_13_165 rfl rfl rfl (Nat.le_of_ble_eq_true rfl) (Nat.le_of_ble_eq_true rfl) rfl (Nat.le_of_ble_eq_true rfl) rfl rfl g3 g4 k
theorem bL_law_1352 {d : Nat} {h : HP} {Q : Out → HP → Prop} {v0 : Nat} {v1 : Nat} {v2 : Nat} {v3 : Nat} {v4 : Nat} {v5 : Int32} {v6 : Int32} {u7 : Option Value} {s0 : UInt32} (k : (1 < v2) ∧ ((hK h v2 = 12) ∧ (WP d mX12_thrown 0 [some (.ref v2)] [] h (KK d mL_law mX12_thrown 1355 [some (.ref v0), some (.ref v1), some (.ref v2), some (.ref v3), some (.ref v4), some (.int v5), some (.int v6), some (.float s0)] [] Q)))) : WP (d + 1) mL_law 1352 [some (.ref v0), some (.ref v1), some (.ref v2), some (.ref v3), some (.ref v4), some (.int v5), some (.int v6), u7] [.float s0] h Q := by
  refine w_fstore (lo' := [some (.ref v0), some (.ref v1), some (.ref v2), some (.ref v3), some (.ref v4), some (.int v5), some (.int v6), some (.float s0)]) dL_law_1352 (ltQ rfl) rfl ?_
  refine w_aload_n dL_law_1354 rfl ?_
  obtain ⟨g1, k⟩ := k
  obtain ⟨g2, k⟩ := k
  exact w_virt (as1 := [.ref v2]) (as2 := [.ref v2]) (rest := []) (lo2 := [some (.ref v2)]) dL_law_1355 c_13_97 rfl rfl rfl (Nat.le_of_ble_eq_true rfl) (Nat.le_of_ble_eq_true rfl) rfl (Nat.le_of_ble_eq_true rfl) rfl rfl g1 g2 k
theorem bL_law_1358 {d : Nat} {h : HP} {Q : Out → HP → Prop} {v0 : Nat} {v1 : Nat} {v2 : Nat} {v3 : Nat} {v4 : Nat} {v5 : Int32} {v6 : Int32} {v7 : UInt32} {s0 : Int32} (k : ((s0 = v6) → ((¬ v6 = 0) → WP d mL_law 28 [some (.ref v0), some (.ref v1), some (.ref v2), some (.ref v3), some (.ref v4), some (.int (v5 + (5 : Int32))), some (.int v6), some (.float v7)] [] h Q) ∧ ((¬ (¬ v6 = 0)) → (hK h v4 = 24) ∧ ((inA h v4 (0 : Int32) = true) ∧ ((nn64 (FP.f2d v7) = true) ∧ ((((Op.cmpValue (FP.dcmp (hAD h v4 ((0 : Int32)).toNatClampNeg) (FP.f2d v7)) .l) = 0) → WP d mL_law 28 [some (.ref v0), some (.ref v1), some (.ref v2), some (.ref v3), some (.ref v4), some (.int (v5 + (5 : Int32))), some (.int v6), some (.float v7)] [] h Q) ∧ ((¬ ((Op.cmpValue (FP.dcmp (hAD h v4 ((0 : Int32)).toNatClampNeg) (FP.f2d v7)) .l) = 0)) → (((Op.cmpValue (FP.dcmp (hAD h v4 ((0 : Int32)).toNatClampNeg) (hAD h v4 ((0 : Int32)).toNatClampNeg)) .l) = 0) → Q (.inl (some (.int (0 : Int32)))) h) ∧ ((¬ ((Op.cmpValue (FP.dcmp (hAD h v4 ((0 : Int32)).toNatClampNeg) (hAD h v4 ((0 : Int32)).toNatClampNeg)) .l) = 0)) → ((¬ (Op.cmpValue (FP.fcmp v7 v7) .l) = 0) → WP d mL_law 28 [some (.ref v0), some (.ref v1), some (.ref v2), some (.ref v3), some (.ref v4), some (.int (v5 + (5 : Int32))), some (.int v6), some (.float v7)] [] h Q) ∧ ((¬ (¬ (Op.cmpValue (FP.fcmp v7 v7) .l) = 0)) → Q (.inl (some (.int (0 : Int32)))) h)))))))) ∧ ((¬ (s0 = v6)) → Q (.inl (some (.int (0 : Int32)))) h)) : WP d mL_law 1358 [some (.ref v0), some (.ref v1), some (.ref v2), some (.ref v3), some (.ref v4), some (.int v5), some (.int v6), some (.float v7)] [.int s0] h Q := by
  refine w_iload dL_law_1358 rfl ?_
  refine w_ic_eq (pc' := 1365) dL_law_1360 rfl rfl ⟨fun c => ?_, fun c => ?_⟩
  · replace k := k.1 c
    refine w_iload dL_law_1365 rfl ?_
    refine w_if_ne (pc' := 1403) dL_law_1367 rfl rfl ⟨fun c => ?_, fun c => ?_⟩
    · replace k := k.1 c
      refine w_goto (pc' := 1684) dL_law_1403 rfl rfl ?_
      refine w_iinc (lo' := [some (.ref v0), some (.ref v1), some (.ref v2), some (.ref v3), some (.ref v4), some (.int (v5 + (5 : Int32))), some (.int v6), some (.float v7)]) dL_law_1684 rfl i1_5 rfl ?_
      refine w_goto (pc' := 28) dL_law_1687 rfl rfl ?_
      exact k
    · replace k := k.2 c
      refine w_aload dL_law_1370 rfl ?_
      refine w_iconst dL_law_1372 i1_0 ?_
      obtain ⟨g1, k⟩ := k
      obtain ⟨g2, k⟩ := k
      refine w_daload dL_law_1373 g1 g2 ?_
      refine w_fload dL_law_1374 rfl ?_
      obtain ⟨g3, k⟩ := k
      refine w_f2d dL_law_1376 g3 ?_
      refine w_dcmp dL_law_1377 ?_
      refine w_if_eq (pc' := 1403) dL_law_1378 rfl rfl ⟨fun c => ?_, fun c => ?_⟩
      · replace k := k.1 c
        refine w_goto (pc' := 1684) dL_law_1403 rfl rfl ?_
        refine w_iinc (lo' := [some (.ref v0), some (.ref v1), some (.ref v2), some (.ref v3), some (.ref v4), some (.int (v5 + (5 : Int32))), some (.int v6), some (.float v7)]) dL_law_1684 rfl i1_5 rfl ?_
        refine w_goto (pc' := 28) dL_law_1687 rfl rfl ?_
        exact k
      · replace k := k.2 c
        refine w_aload dL_law_1381 rfl ?_
        refine w_iconst dL_law_1383 i1_0 ?_
        refine w_daload dL_law_1384 g1 g2 ?_
        refine w_aload dL_law_1385 rfl ?_
        refine w_iconst dL_law_1387 i1_0 ?_
        refine w_daload dL_law_1388 g1 g2 ?_
        refine w_dcmp dL_law_1389 ?_
        refine w_if_eq (pc' := 1401) dL_law_1390 rfl rfl ⟨fun c => ?_, fun c => ?_⟩
        · replace k := k.1 c
          refine w_iconst dL_law_1401 i1_0 ?_
          exact w_ireturn dL_law_1402 rfl k
        · replace k := k.2 c
          refine w_fload dL_law_1393 rfl ?_
          refine w_fload dL_law_1395 rfl ?_
          refine w_fcmp dL_law_1397 ?_
          refine w_if_ne (pc' := 1403) dL_law_1398 rfl rfl ⟨fun c => ?_, fun c => ?_⟩
          · replace k := k.1 c
            refine w_goto (pc' := 1684) dL_law_1403 rfl rfl ?_
            refine w_iinc (lo' := [some (.ref v0), some (.ref v1), some (.ref v2), some (.ref v3), some (.ref v4), some (.int (v5 + (5 : Int32))), some (.int v6), some (.float v7)]) dL_law_1684 rfl i1_5 rfl ?_
            refine w_goto (pc' := 28) dL_law_1687 rfl rfl ?_
            exact k
          · replace k := k.2 c
            refine w_iconst dL_law_1401 i1_0 ?_
            exact w_ireturn dL_law_1402 rfl k
  · replace k := k.2 c
    refine w_iconst dL_law_1363 i1_0 ?_
    exact w_ireturn dL_law_1364 rfl k
theorem bL_law_1418 {d : Nat} {h : HP} {Q : Out → HP → Prop} {v0 : Nat} {v1 : Nat} {v2 : Nat} {v3 : Nat} {v4 : Nat} {v5 : Int32} {u6 : Option Value} {u7 : Option Value} {s0 : Int32} (k : (hK h v0 = 19) ∧ ((inA h v0 (v5 + (1 : Int32)) = true) ∧ ((1 < v2) ∧ ((hK h v2 = 12) ∧ (WP d mX12_lease 0 [some (.ref v2), some (.int (hAI h v0 ((v5 + (1 : Int32))).toNatClampNeg))] [] h (KK d mL_law mX12_lease 1427 [some (.ref v0), some (.ref v1), some (.ref v2), some (.ref v3), some (.ref v4), some (.int v5), some (.int s0), u7] [] Q)))))) : WP (d + 1) mL_law 1418 [some (.ref v0), some (.ref v1), some (.ref v2), some (.ref v3), some (.ref v4), some (.int v5), u6, u7] [.int s0] h Q := by
  refine w_istore (lo' := [some (.ref v0), some (.ref v1), some (.ref v2), some (.ref v3), some (.ref v4), some (.int v5), some (.int s0), u7]) dL_law_1418 (ltQ rfl) rfl ?_
  refine w_aload_n dL_law_1420 rfl ?_
  refine w_aload_n dL_law_1421 rfl ?_
  refine w_iload dL_law_1422 rfl ?_
  refine w_iconst dL_law_1424 i1_1 ?_
  refine w_iadd dL_law_1425 ?_
  obtain ⟨g1, k⟩ := k
  obtain ⟨g2, k⟩ := k
  refine w_iaload19 dL_law_1426 g1 g2 ?_
  obtain ⟨g3, k⟩ := k
  obtain ⟨g4, k⟩ := k
  exact w_virt (as1 := [.int (hAI h v0 ((v5 + (1 : Int32))).toNatClampNeg), .ref v2]) (as2 := [.ref v2, .int (hAI h v0 ((v5 + (1 : Int32))).toNatClampNeg)]) (rest := []) (lo2 := [some (.ref v2), some (.int (hAI h v0 ((v5 + (1 : Int32))).toNatClampNeg))]) dL_law_1427 c_13_168 rfl rfl rfl (Nat.le_of_ble_eq_true rfl) (Nat.le_of_ble_eq_true rfl) rfl (Nat.le_of_ble_eq_true rfl) rfl rfl g3 g4 k
theorem bL_law_1430 {d : Nat} {h : HP} {Q : Out → HP → Prop} {v0 : Nat} {v1 : Nat} {v2 : Nat} {v3 : Nat} {v4 : Nat} {v5 : Int32} {v6 : Int32} {u7 : Option Value} {s0 : UInt32} (k : (1 < v2) ∧ ((hK h v2 = 12) ∧ (WP d mX12_thrown 0 [some (.ref v2)] [] h (KK d mL_law mX12_thrown 1433 [some (.ref v0), some (.ref v1), some (.ref v2), some (.ref v3), some (.ref v4), some (.int v5), some (.int v6), some (.float s0)] [] Q)))) : WP (d + 1) mL_law 1430 [some (.ref v0), some (.ref v1), some (.ref v2), some (.ref v3), some (.ref v4), some (.int v5), some (.int v6), u7] [.float s0] h Q := by
  refine w_fstore (lo' := [some (.ref v0), some (.ref v1), some (.ref v2), some (.ref v3), some (.ref v4), some (.int v5), some (.int v6), some (.float s0)]) dL_law_1430 (ltQ rfl) rfl ?_
  refine w_aload_n dL_law_1432 rfl ?_
  obtain ⟨g1, k⟩ := k
  obtain ⟨g2, k⟩ := k
  exact w_virt (as1 := [.ref v2]) (as2 := [.ref v2]) (rest := []) (lo2 := [some (.ref v2)]) dL_law_1433 c_13_97 rfl rfl rfl (Nat.le_of_ble_eq_true rfl) (Nat.le_of_ble_eq_true rfl) rfl (Nat.le_of_ble_eq_true rfl) rfl rfl g1 g2 k
theorem bL_law_1436 {d : Nat} {h : HP} {Q : Out → HP → Prop} {v0 : Nat} {v1 : Nat} {v2 : Nat} {v3 : Nat} {v4 : Nat} {v5 : Int32} {v6 : Int32} {v7 : UInt32} {s0 : Int32} (k : ((s0 = v6) → ((¬ v6 = 0) → WP d mL_law 28 [some (.ref v0), some (.ref v1), some (.ref v2), some (.ref v3), some (.ref v4), some (.int (v5 + (5 : Int32))), some (.int v6), some (.float v7)] [] h Q) ∧ ((¬ (¬ v6 = 0)) → (hK h v4 = 24) ∧ ((inA h v4 (0 : Int32) = true) ∧ ((nn64 (FP.f2d v7) = true) ∧ ((((Op.cmpValue (FP.dcmp (hAD h v4 ((0 : Int32)).toNatClampNeg) (FP.f2d v7)) .l) = 0) → WP d mL_law 28 [some (.ref v0), some (.ref v1), some (.ref v2), some (.ref v3), some (.ref v4), some (.int (v5 + (5 : Int32))), some (.int v6), some (.float v7)] [] h Q) ∧ ((¬ ((Op.cmpValue (FP.dcmp (hAD h v4 ((0 : Int32)).toNatClampNeg) (FP.f2d v7)) .l) = 0)) → (((Op.cmpValue (FP.dcmp (hAD h v4 ((0 : Int32)).toNatClampNeg) (hAD h v4 ((0 : Int32)).toNatClampNeg)) .l) = 0) → Q (.inl (some (.int (0 : Int32)))) h) ∧ ((¬ ((Op.cmpValue (FP.dcmp (hAD h v4 ((0 : Int32)).toNatClampNeg) (hAD h v4 ((0 : Int32)).toNatClampNeg)) .l) = 0)) → ((¬ (Op.cmpValue (FP.fcmp v7 v7) .l) = 0) → WP d mL_law 28 [some (.ref v0), some (.ref v1), some (.ref v2), some (.ref v3), some (.ref v4), some (.int (v5 + (5 : Int32))), some (.int v6), some (.float v7)] [] h Q) ∧ ((¬ (¬ (Op.cmpValue (FP.fcmp v7 v7) .l) = 0)) → Q (.inl (some (.int (0 : Int32)))) h)))))))) ∧ ((¬ (s0 = v6)) → Q (.inl (some (.int (0 : Int32)))) h)) : WP d mL_law 1436 [some (.ref v0), some (.ref v1), some (.ref v2), some (.ref v3), some (.ref v4), some (.int v5), some (.int v6), some (.float v7)] [.int s0] h Q := by
  refine w_iload dL_law_1436 rfl ?_
  refine w_ic_eq (pc' := 1443) dL_law_1438 rfl rfl ⟨fun c => ?_, fun c => ?_⟩
  · replace k := k.1 c
    refine w_iload dL_law_1443 rfl ?_
    refine w_if_ne (pc' := 1481) dL_law_1445 rfl rfl ⟨fun c => ?_, fun c => ?_⟩
    · replace k := k.1 c
      refine w_goto (pc' := 1684) dL_law_1481 rfl rfl ?_
      refine w_iinc (lo' := [some (.ref v0), some (.ref v1), some (.ref v2), some (.ref v3), some (.ref v4), some (.int (v5 + (5 : Int32))), some (.int v6), some (.float v7)]) dL_law_1684 rfl i1_5 rfl ?_
      refine w_goto (pc' := 28) dL_law_1687 rfl rfl ?_
      exact k
    · replace k := k.2 c
      refine w_aload dL_law_1448 rfl ?_
      refine w_iconst dL_law_1450 i1_0 ?_
      obtain ⟨g1, k⟩ := k
      obtain ⟨g2, k⟩ := k
      refine w_daload dL_law_1451 g1 g2 ?_
      refine w_fload dL_law_1452 rfl ?_
      obtain ⟨g3, k⟩ := k
      refine w_f2d dL_law_1454 g3 ?_
      refine w_dcmp dL_law_1455 ?_
      refine w_if_eq (pc' := 1481) dL_law_1456 rfl rfl ⟨fun c => ?_, fun c => ?_⟩
      · replace k := k.1 c
        refine w_goto (pc' := 1684) dL_law_1481 rfl rfl ?_
        refine w_iinc (lo' := [some (.ref v0), some (.ref v1), some (.ref v2), some (.ref v3), some (.ref v4), some (.int (v5 + (5 : Int32))), some (.int v6), some (.float v7)]) dL_law_1684 rfl i1_5 rfl ?_
        refine w_goto (pc' := 28) dL_law_1687 rfl rfl ?_
        exact k
      · replace k := k.2 c
        refine w_aload dL_law_1459 rfl ?_
        refine w_iconst dL_law_1461 i1_0 ?_
        refine w_daload dL_law_1462 g1 g2 ?_
        refine w_aload dL_law_1463 rfl ?_
        refine w_iconst dL_law_1465 i1_0 ?_
        refine w_daload dL_law_1466 g1 g2 ?_
        refine w_dcmp dL_law_1467 ?_
        refine w_if_eq (pc' := 1479) dL_law_1468 rfl rfl ⟨fun c => ?_, fun c => ?_⟩
        · replace k := k.1 c
          refine w_iconst dL_law_1479 i1_0 ?_
          exact w_ireturn dL_law_1480 rfl k
        · replace k := k.2 c
          refine w_fload dL_law_1471 rfl ?_
          refine w_fload dL_law_1473 rfl ?_
          refine w_fcmp dL_law_1475 ?_
          refine w_if_ne (pc' := 1481) dL_law_1476 rfl rfl ⟨fun c => ?_, fun c => ?_⟩
          · replace k := k.1 c
            refine w_goto (pc' := 1684) dL_law_1481 rfl rfl ?_
            refine w_iinc (lo' := [some (.ref v0), some (.ref v1), some (.ref v2), some (.ref v3), some (.ref v4), some (.int (v5 + (5 : Int32))), some (.int v6), some (.float v7)]) dL_law_1684 rfl i1_5 rfl ?_
            refine w_goto (pc' := 28) dL_law_1687 rfl rfl ?_
            exact k
          · replace k := k.2 c
            refine w_iconst dL_law_1479 i1_0 ?_
            exact w_ireturn dL_law_1480 rfl k
  · replace k := k.2 c
    refine w_iconst dL_law_1441 i1_0 ?_
    exact w_ireturn dL_law_1442 rfl k
theorem bL_law_1488 {d : Nat} {h : HP} {Q : Out → HP → Prop} {v0 : Nat} {v1 : Nat} {v2 : Nat} {v3 : Nat} {v4 : Nat} {v5 : Int32} {u6 : Option Value} {u7 : Option Value} {s0 : Int32} (k : (1 < v2) ∧ ((hK h v2 = 12) ∧ (WP d mX12_leases_ 0 [some (.ref v2), none, none] [] h (KK d mL_law mX12_leases_ 1489 [some (.ref v0), some (.ref v1), some (.ref v2), some (.ref v3), some (.ref v4), some (.int v5), u6, u7] [.int s0] Q)))) : WP (d + 1) mL_law 1488 [some (.ref v0), some (.ref v1), some (.ref v2), some (.ref v3), some (.ref v4), some (.int v5), u6, u7] [.int s0] h Q := by
  refine w_aload_n dL_law_1488 rfl ?_
  obtain ⟨g1, k⟩ := k
  obtain ⟨g2, k⟩ := k
  exact w_virt (as1 := [.ref v2]) (as2 := [.ref v2]) (rest := [.int s0]) (lo2 := [some (.ref v2), none, none]) dL_law_1489 c_13_172 rfl rfl rfl (Nat.le_of_ble_eq_true rfl) (Nat.le_of_ble_eq_true rfl) rfl (Nat.le_of_ble_eq_true rfl) rfl rfl g1 g2 k
theorem bL_law_1492 {d : Nat} {h : HP} {Q : Out → HP → Prop} {v0 : Nat} {v1 : Nat} {v2 : Nat} {v3 : Nat} {v4 : Nat} {v5 : Int32} {u6 : Option Value} {u7 : Option Value} {s0 : Int32} {s1 : Int32} (k : ((s1 = s0) → WP d mL_law 28 [some (.ref v0), some (.ref v1), some (.ref v2), some (.ref v3), some (.ref v4), some (.int (v5 + (5 : Int32))), u6, u7] [] h Q) ∧ ((¬ (s1 = s0)) → Q (.inl (some (.int (0 : Int32)))) h)) : WP d mL_law 1492 [some (.ref v0), some (.ref v1), some (.ref v2), some (.ref v3), some (.ref v4), some (.int v5), u6, u7] [.int s0, .int s1] h Q := by
  refine w_ic_eq (pc' := 1684) dL_law_1492 rfl rfl ⟨fun c => ?_, fun c => ?_⟩
  · replace k := k.1 c
    refine w_iinc (lo' := [some (.ref v0), some (.ref v1), some (.ref v2), some (.ref v3), some (.ref v4), some (.int (v5 + (5 : Int32))), u6, u7]) dL_law_1684 rfl i1_5 rfl ?_
    refine w_goto (pc' := 28) dL_law_1687 rfl rfl ?_
    exact k
  · replace k := k.2 c
    refine w_iconst dL_law_1495 i1_0 ?_
    exact w_ireturn dL_law_1496 rfl k
theorem bL_law_1520 {d : Nat} {h : HP} {Q : Out → HP → Prop} {v0 : Nat} {v1 : Nat} {v2 : Nat} {v3 : Nat} {v4 : Nat} {v5 : Int32} {u6 : Option Value} {u7 : Option Value} {s0 : Int32} (k : (hK h v0 = 19) ∧ ((inA h v0 (v5 + (1 : Int32)) = true) ∧ ((inA h v0 (v5 + (2 : Int32)) = true) ∧ ((inA h v0 (v5 + (3 : Int32)) = true) ∧ ((1 < v2) ∧ ((hK h v2 = 12) ∧ (WP d mX12_decision 0 [some (.ref v2), some (.int (hAI h v0 ((v5 + (1 : Int32))).toNatClampNeg)), some (.int (hAI h v0 ((v5 + (2 : Int32))).toNatClampNeg)), some (.int (hAI h v0 ((v5 + (3 : Int32))).toNatClampNeg)), none, none] [] h (KK d mL_law mX12_decision 1541 [some (.ref v0), some (.ref v1), some (.ref v2), some (.ref v3), some (.ref v4), some (.int v5), some (.int s0), u7] [] Q)))))))) : WP (d + 1) mL_law 1520 [some (.ref v0), some (.ref v1), some (.ref v2), some (.ref v3), some (.ref v4), some (.int v5), u6, u7] [.int s0] h Q := by
  refine w_istore (lo' := [some (.ref v0), some (.ref v1), some (.ref v2), some (.ref v3), some (.ref v4), some (.int v5), some (.int s0), u7]) dL_law_1520 (ltQ rfl) rfl ?_
  refine w_aload_n dL_law_1522 rfl ?_
  refine w_aload_n dL_law_1523 rfl ?_
  refine w_iload dL_law_1524 rfl ?_
  refine w_iconst dL_law_1526 i1_1 ?_
  refine w_iadd dL_law_1527 ?_
  obtain ⟨g1, k⟩ := k
  obtain ⟨g2, k⟩ := k
  refine w_iaload19 dL_law_1528 g1 g2 ?_
  refine w_aload_n dL_law_1529 rfl ?_
  refine w_iload dL_law_1530 rfl ?_
  refine w_iconst dL_law_1532 i1_2 ?_
  refine w_iadd dL_law_1533 ?_
  obtain ⟨g3, k⟩ := k
  refine w_iaload19 dL_law_1534 g1 g3 ?_
  refine w_aload_n dL_law_1535 rfl ?_
  refine w_iload dL_law_1536 rfl ?_
  refine w_iconst dL_law_1538 i1_3 ?_
  refine w_iadd dL_law_1539 ?_
  obtain ⟨g4, k⟩ := k
  refine w_iaload19 dL_law_1540 g1 g4 ?_
  obtain ⟨g5, k⟩ := k
  obtain ⟨g6, k⟩ := k
  exact w_virt (as1 := [.int (hAI h v0 ((v5 + (3 : Int32))).toNatClampNeg), .int (hAI h v0 ((v5 + (2 : Int32))).toNatClampNeg), .int (hAI h v0 ((v5 + (1 : Int32))).toNatClampNeg), .ref v2]) (as2 := [.ref v2, .int (hAI h v0 ((v5 + (1 : Int32))).toNatClampNeg), .int (hAI h v0 ((v5 + (2 : Int32))).toNatClampNeg), .int (hAI h v0 ((v5 + (3 : Int32))).toNatClampNeg)]) (rest := []) (lo2 := [some (.ref v2), some (.int (hAI h v0 ((v5 + (1 : Int32))).toNatClampNeg)), some (.int (hAI h v0 ((v5 + (2 : Int32))).toNatClampNeg)), some (.int (hAI h v0 ((v5 + (3 : Int32))).toNatClampNeg)), none, none]) dL_law_1541 c_13_175 rfl rfl rfl (Nat.le_of_ble_eq_true rfl) (Nat.le_of_ble_eq_true rfl) rfl (Nat.le_of_ble_eq_true rfl) rfl rfl g5 g6 k
theorem bL_law_1544 {d : Nat} {h : HP} {Q : Out → HP → Prop} {v0 : Nat} {v1 : Nat} {v2 : Nat} {v3 : Nat} {v4 : Nat} {v5 : Int32} {v6 : Int32} {u7 : Option Value} {s0 : Int32} (k : (1 < v2) ∧ ((hK h v2 = 12) ∧ (WP d mX12_thrown 0 [some (.ref v2)] [] h (KK d mL_law mX12_thrown 1547 [some (.ref v0), some (.ref v1), some (.ref v2), some (.ref v3), some (.ref v4), some (.int v5), some (.int v6), some (.int s0)] [] Q)))) : WP (d + 1) mL_law 1544 [some (.ref v0), some (.ref v1), some (.ref v2), some (.ref v3), some (.ref v4), some (.int v5), some (.int v6), u7] [.int s0] h Q := by
  refine w_istore (lo' := [some (.ref v0), some (.ref v1), some (.ref v2), some (.ref v3), some (.ref v4), some (.int v5), some (.int v6), some (.int s0)]) dL_law_1544 (ltQ rfl) rfl ?_
  refine w_aload_n dL_law_1546 rfl ?_
  obtain ⟨g1, k⟩ := k
  obtain ⟨g2, k⟩ := k
  exact w_virt (as1 := [.ref v2]) (as2 := [.ref v2]) (rest := []) (lo2 := [some (.ref v2)]) dL_law_1547 c_13_97 rfl rfl rfl (Nat.le_of_ble_eq_true rfl) (Nat.le_of_ble_eq_true rfl) rfl (Nat.le_of_ble_eq_true rfl) rfl rfl g1 g2 k
theorem bL_law_1550 {d : Nat} {h : HP} {Q : Out → HP → Prop} {v0 : Nat} {v1 : Nat} {v2 : Nat} {v3 : Nat} {v4 : Nat} {v5 : Int32} {v6 : Int32} {v7 : Int32} {s0 : Int32} (k : ((s0 = v6) → ((¬ v6 = 0) → WP d mL_law 28 [some (.ref v0), some (.ref v1), some (.ref v2), some (.ref v3), some (.ref v4), some (.int (v5 + (5 : Int32))), some (.int v6), some (.int v7)] [] h Q) ∧ ((¬ (¬ v6 = 0)) → (hK h v3 = 23) ∧ ((inA h v3 (0 : Int32) = true) ∧ ((((lg_cmp (hAL h v3 ((0 : Int32)).toNatClampNeg) (Int32.toInt64 v7)) = 0) → WP d mL_law 28 [some (.ref v0), some (.ref v1), some (.ref v2), some (.ref v3), some (.ref v4), some (.int (v5 + (5 : Int32))), some (.int v6), some (.int v7)] [] h Q) ∧ ((¬ ((lg_cmp (hAL h v3 ((0 : Int32)).toNatClampNeg) (Int32.toInt64 v7)) = 0)) → Q (.inl (some (.int (0 : Int32)))) h))))) ∧ ((¬ (s0 = v6)) → Q (.inl (some (.int (0 : Int32)))) h)) : WP d mL_law 1550 [some (.ref v0), some (.ref v1), some (.ref v2), some (.ref v3), some (.ref v4), some (.int v5), some (.int v6), some (.int v7)] [.int s0] h Q := by
  refine w_iload dL_law_1550 rfl ?_
  refine w_ic_eq (pc' := 1557) dL_law_1552 rfl rfl ⟨fun c => ?_, fun c => ?_⟩
  · replace k := k.1 c
    refine w_iload dL_law_1557 rfl ?_
    refine w_if_ne (pc' := 1574) dL_law_1559 rfl rfl ⟨fun c => ?_, fun c => ?_⟩
    · replace k := k.1 c
      refine w_goto (pc' := 1684) dL_law_1574 rfl rfl ?_
      refine w_iinc (lo' := [some (.ref v0), some (.ref v1), some (.ref v2), some (.ref v3), some (.ref v4), some (.int (v5 + (5 : Int32))), some (.int v6), some (.int v7)]) dL_law_1684 rfl i1_5 rfl ?_
      refine w_goto (pc' := 28) dL_law_1687 rfl rfl ?_
      exact k
    · replace k := k.2 c
      refine w_aload_n dL_law_1562 rfl ?_
      refine w_iconst dL_law_1563 i1_0 ?_
      obtain ⟨g1, k⟩ := k
      obtain ⟨g2, k⟩ := k
      refine w_laload dL_law_1564 g1 g2 ?_
      refine w_iload dL_law_1565 rfl ?_
      refine w_i2l dL_law_1567 ?_
      refine w_lcmp dL_law_1568 ?_
      refine w_if_eq (pc' := 1574) dL_law_1569 rfl rfl ⟨fun c => ?_, fun c => ?_⟩
      · replace k := k.1 c
        refine w_goto (pc' := 1684) dL_law_1574 rfl rfl ?_
        refine w_iinc (lo' := [some (.ref v0), some (.ref v1), some (.ref v2), some (.ref v3), some (.ref v4), some (.int (v5 + (5 : Int32))), some (.int v6), some (.int v7)]) dL_law_1684 rfl i1_5 rfl ?_
        refine w_goto (pc' := 28) dL_law_1687 rfl rfl ?_
        exact k
      · replace k := k.2 c
        refine w_iconst dL_law_1572 i1_0 ?_
        exact w_ireturn dL_law_1573 rfl k
  · replace k := k.2 c
    refine w_iconst dL_law_1555 i1_0 ?_
    exact w_ireturn dL_law_1556 rfl k
theorem bL_law_1581 {d : Nat} {h : HP} {Q : Out → HP → Prop} {v0 : Nat} {v1 : Nat} {v2 : Nat} {v3 : Nat} {v4 : Nat} {v5 : Int32} {u6 : Option Value} {u7 : Option Value} {s0 : Int32} (k : (1 < v2) ∧ ((hK h v2 = 12) ∧ (WP d mX12_acts_ 0 [some (.ref v2)] [] h (KK d mL_law mX12_acts_ 1582 [some (.ref v0), some (.ref v1), some (.ref v2), some (.ref v3), some (.ref v4), some (.int v5), u6, u7] [.int s0] Q)))) : WP (d + 1) mL_law 1581 [some (.ref v0), some (.ref v1), some (.ref v2), some (.ref v3), some (.ref v4), some (.int v5), u6, u7] [.int s0] h Q := by
  refine w_aload_n dL_law_1581 rfl ?_
  obtain ⟨g1, k⟩ := k
  obtain ⟨g2, k⟩ := k
  exact w_virt (as1 := [.ref v2]) (as2 := [.ref v2]) (rest := [.int s0]) (lo2 := [some (.ref v2)]) dL_law_1582 c_13_179 rfl rfl rfl (Nat.le_of_ble_eq_true rfl) (Nat.le_of_ble_eq_true rfl) rfl (Nat.le_of_ble_eq_true rfl) rfl rfl g1 g2 k
theorem bL_law_1585 {d : Nat} {h : HP} {Q : Out → HP → Prop} {v0 : Nat} {v1 : Nat} {v2 : Nat} {v3 : Nat} {v4 : Nat} {v5 : Int32} {u6 : Option Value} {u7 : Option Value} {s0 : Int32} {s1 : Int32} (k : ((s1 = s0) → WP d mL_law 28 [some (.ref v0), some (.ref v1), some (.ref v2), some (.ref v3), some (.ref v4), some (.int (v5 + (5 : Int32))), u6, u7] [] h Q) ∧ ((¬ (s1 = s0)) → Q (.inl (some (.int (0 : Int32)))) h)) : WP d mL_law 1585 [some (.ref v0), some (.ref v1), some (.ref v2), some (.ref v3), some (.ref v4), some (.int v5), u6, u7] [.int s0, .int s1] h Q := by
  refine w_ic_eq (pc' := 1684) dL_law_1585 rfl rfl ⟨fun c => ?_, fun c => ?_⟩
  · replace k := k.1 c
    refine w_iinc (lo' := [some (.ref v0), some (.ref v1), some (.ref v2), some (.ref v3), some (.ref v4), some (.int (v5 + (5 : Int32))), u6, u7]) dL_law_1684 rfl i1_5 rfl ?_
    refine w_goto (pc' := 28) dL_law_1687 rfl rfl ?_
    exact k
  · replace k := k.2 c
    refine w_iconst dL_law_1588 i1_0 ?_
    exact w_ireturn dL_law_1589 rfl k
theorem bL_law_1607 {d : Nat} {h : HP} {Q : Out → HP → Prop} {v0 : Nat} {v1 : Nat} {v2 : Nat} {v3 : Nat} {v4 : Nat} {v5 : Int32} {u6 : Option Value} {u7 : Option Value} {s0 : Int32} (k : (hK h v0 = 19) ∧ ((inA h v0 (v5 + (1 : Int32)) = true) ∧ ((inA h v0 (v5 + (2 : Int32)) = true) ∧ ((1 < v2) ∧ ((hK h v2 = 12) ∧ (WP d mX12_act 0 [some (.ref v2), some (.int (hAI h v0 ((v5 + (1 : Int32))).toNatClampNeg)), some (.int (hAI h v0 ((v5 + (2 : Int32))).toNatClampNeg))] [] h (KK d mL_law mX12_act 1622 [some (.ref v0), some (.ref v1), some (.ref v2), some (.ref v3), some (.ref v4), some (.int v5), some (.int s0), u7] [] Q))))))) : WP (d + 1) mL_law 1607 [some (.ref v0), some (.ref v1), some (.ref v2), some (.ref v3), some (.ref v4), some (.int v5), u6, u7] [.int s0] h Q := by
  refine w_istore (lo' := [some (.ref v0), some (.ref v1), some (.ref v2), some (.ref v3), some (.ref v4), some (.int v5), some (.int s0), u7]) dL_law_1607 (ltQ rfl) rfl ?_
  refine w_aload_n dL_law_1609 rfl ?_
  refine w_aload_n dL_law_1610 rfl ?_
  refine w_iload dL_law_1611 rfl ?_
  refine w_iconst dL_law_1613 i1_1 ?_
  refine w_iadd dL_law_1614 ?_
  obtain ⟨g1, k⟩ := k
  obtain ⟨g2, k⟩ := k
  refine w_iaload19 dL_law_1615 g1 g2 ?_
  refine w_aload_n dL_law_1616 rfl ?_
  refine w_iload dL_law_1617 rfl ?_
  refine w_iconst dL_law_1619 i1_2 ?_
  refine w_iadd dL_law_1620 ?_
  obtain ⟨g3, k⟩ := k
  refine w_iaload19 dL_law_1621 g1 g3 ?_
  obtain ⟨g4, k⟩ := k
  obtain ⟨g5, k⟩ := k
  exact w_virt (as1 := [.int (hAI h v0 ((v5 + (2 : Int32))).toNatClampNeg), .int (hAI h v0 ((v5 + (1 : Int32))).toNatClampNeg), .ref v2]) (as2 := [.ref v2, .int (hAI h v0 ((v5 + (1 : Int32))).toNatClampNeg), .int (hAI h v0 ((v5 + (2 : Int32))).toNatClampNeg)]) (rest := []) (lo2 := [some (.ref v2), some (.int (hAI h v0 ((v5 + (1 : Int32))).toNatClampNeg)), some (.int (hAI h v0 ((v5 + (2 : Int32))).toNatClampNeg))]) dL_law_1622 c_13_182 rfl rfl rfl (Nat.le_of_ble_eq_true rfl) (Nat.le_of_ble_eq_true rfl) rfl (Nat.le_of_ble_eq_true rfl) rfl rfl g4 g5 k
theorem bL_law_1625 {d : Nat} {h : HP} {Q : Out → HP → Prop} {v0 : Nat} {v1 : Nat} {v2 : Nat} {v3 : Nat} {v4 : Nat} {v5 : Int32} {v6 : Int32} {u7 : Option Value} {s0 : Int32} (k : (1 < v2) ∧ ((hK h v2 = 12) ∧ (WP d mX12_thrown 0 [some (.ref v2)] [] h (KK d mL_law mX12_thrown 1628 [some (.ref v0), some (.ref v1), some (.ref v2), some (.ref v3), some (.ref v4), some (.int v5), some (.int v6), some (.int s0)] [] Q)))) : WP (d + 1) mL_law 1625 [some (.ref v0), some (.ref v1), some (.ref v2), some (.ref v3), some (.ref v4), some (.int v5), some (.int v6), u7] [.int s0] h Q := by
  refine w_istore (lo' := [some (.ref v0), some (.ref v1), some (.ref v2), some (.ref v3), some (.ref v4), some (.int v5), some (.int v6), some (.int s0)]) dL_law_1625 (ltQ rfl) rfl ?_
  refine w_aload_n dL_law_1627 rfl ?_
  obtain ⟨g1, k⟩ := k
  obtain ⟨g2, k⟩ := k
  exact w_virt (as1 := [.ref v2]) (as2 := [.ref v2]) (rest := []) (lo2 := [some (.ref v2)]) dL_law_1628 c_13_97 rfl rfl rfl (Nat.le_of_ble_eq_true rfl) (Nat.le_of_ble_eq_true rfl) rfl (Nat.le_of_ble_eq_true rfl) rfl rfl g1 g2 k
theorem bL_law_1631 {d : Nat} {h : HP} {Q : Out → HP → Prop} {v0 : Nat} {v1 : Nat} {v2 : Nat} {v3 : Nat} {v4 : Nat} {v5 : Int32} {v6 : Int32} {v7 : Int32} {s0 : Int32} (k : ((s0 = v6) → ((¬ v6 = 0) → WP d mL_law 28 [some (.ref v0), some (.ref v1), some (.ref v2), some (.ref v3), some (.ref v4), some (.int (v5 + (5 : Int32))), some (.int v6), some (.int v7)] [] h Q) ∧ ((¬ (¬ v6 = 0)) → (hK h v3 = 23) ∧ ((inA h v3 (0 : Int32) = true) ∧ ((((lg_cmp (hAL h v3 ((0 : Int32)).toNatClampNeg) (Int32.toInt64 v7)) = 0) → WP d mL_law 28 [some (.ref v0), some (.ref v1), some (.ref v2), some (.ref v3), some (.ref v4), some (.int (v5 + (5 : Int32))), some (.int v6), some (.int v7)] [] h Q) ∧ ((¬ ((lg_cmp (hAL h v3 ((0 : Int32)).toNatClampNeg) (Int32.toInt64 v7)) = 0)) → Q (.inl (some (.int (0 : Int32)))) h))))) ∧ ((¬ (s0 = v6)) → Q (.inl (some (.int (0 : Int32)))) h)) : WP d mL_law 1631 [some (.ref v0), some (.ref v1), some (.ref v2), some (.ref v3), some (.ref v4), some (.int v5), some (.int v6), some (.int v7)] [.int s0] h Q := by
  refine w_iload dL_law_1631 rfl ?_
  refine w_ic_eq (pc' := 1638) dL_law_1633 rfl rfl ⟨fun c => ?_, fun c => ?_⟩
  · replace k := k.1 c
    refine w_iload dL_law_1638 rfl ?_
    refine w_if_ne (pc' := 1655) dL_law_1640 rfl rfl ⟨fun c => ?_, fun c => ?_⟩
    · replace k := k.1 c
      refine w_goto (pc' := 1684) dL_law_1655 rfl rfl ?_
      refine w_iinc (lo' := [some (.ref v0), some (.ref v1), some (.ref v2), some (.ref v3), some (.ref v4), some (.int (v5 + (5 : Int32))), some (.int v6), some (.int v7)]) dL_law_1684 rfl i1_5 rfl ?_
      refine w_goto (pc' := 28) dL_law_1687 rfl rfl ?_
      exact k
    · replace k := k.2 c
      refine w_aload_n dL_law_1643 rfl ?_
      refine w_iconst dL_law_1644 i1_0 ?_
      obtain ⟨g1, k⟩ := k
      obtain ⟨g2, k⟩ := k
      refine w_laload dL_law_1645 g1 g2 ?_
      refine w_iload dL_law_1646 rfl ?_
      refine w_i2l dL_law_1648 ?_
      refine w_lcmp dL_law_1649 ?_
      refine w_if_eq (pc' := 1655) dL_law_1650 rfl rfl ⟨fun c => ?_, fun c => ?_⟩
      · replace k := k.1 c
        refine w_goto (pc' := 1684) dL_law_1655 rfl rfl ?_
        refine w_iinc (lo' := [some (.ref v0), some (.ref v1), some (.ref v2), some (.ref v3), some (.ref v4), some (.int (v5 + (5 : Int32))), some (.int v6), some (.int v7)]) dL_law_1684 rfl i1_5 rfl ?_
        refine w_goto (pc' := 28) dL_law_1687 rfl rfl ?_
        exact k
      · replace k := k.2 c
        refine w_iconst dL_law_1653 i1_0 ?_
        exact w_ireturn dL_law_1654 rfl k
  · replace k := k.2 c
    refine w_iconst dL_law_1636 i1_0 ?_
    exact w_ireturn dL_law_1637 rfl k
theorem bL_law_1662 {d : Nat} {h : HP} {Q : Out → HP → Prop} {v0 : Nat} {v1 : Nat} {v2 : Nat} {v3 : Nat} {v4 : Nat} {v5 : Int32} {u6 : Option Value} {u7 : Option Value} {s0 : Int32} (k : (1 < v2) ∧ ((hK h v2 = 12) ∧ (WP d mX12_isInOrder 0 [some (.ref v2), none, none, none, none, none, none, none] [] h (KK d mL_law mX12_isInOrder 1663 [some (.ref v0), some (.ref v1), some (.ref v2), some (.ref v3), some (.ref v4), some (.int v5), u6, u7] [.int s0] Q)))) : WP (d + 1) mL_law 1662 [some (.ref v0), some (.ref v1), some (.ref v2), some (.ref v3), some (.ref v4), some (.int v5), u6, u7] [.int s0] h Q := by
  refine w_aload_n dL_law_1662 rfl ?_
  obtain ⟨g1, k⟩ := k
  obtain ⟨g2, k⟩ := k
  exact w_virt (as1 := [.ref v2]) (as2 := [.ref v2]) (rest := [.int s0]) (lo2 := [some (.ref v2), none, none, none, none, none, none, none]) dL_law_1663 c_13_187 rfl rfl rfl (Nat.le_of_ble_eq_true rfl) (Nat.le_of_ble_eq_true rfl) rfl (Nat.le_of_ble_eq_true rfl) rfl rfl g1 g2 k
theorem bL_law_1666 {d : Nat} {h : HP} {Q : Out → HP → Prop} {v0 : Nat} {v1 : Nat} {v2 : Nat} {v3 : Nat} {v4 : Nat} {v5 : Int32} {u6 : Option Value} {u7 : Option Value} {s0 : Int32} {s1 : Int32} (k : ((s1 = s0) → WP d mL_law 28 [some (.ref v0), some (.ref v1), some (.ref v2), some (.ref v3), some (.ref v4), some (.int (v5 + (5 : Int32))), u6, u7] [] h Q) ∧ ((¬ (s1 = s0)) → Q (.inl (some (.int (0 : Int32)))) h)) : WP d mL_law 1666 [some (.ref v0), some (.ref v1), some (.ref v2), some (.ref v3), some (.ref v4), some (.int v5), u6, u7] [.int s0, .int s1] h Q := by
  refine w_ic_eq (pc' := 1684) dL_law_1666 rfl rfl ⟨fun c => ?_, fun c => ?_⟩
  · replace k := k.1 c
    refine w_iinc (lo' := [some (.ref v0), some (.ref v1), some (.ref v2), some (.ref v3), some (.ref v4), some (.int (v5 + (5 : Int32))), u6, u7]) dL_law_1684 rfl i1_5 rfl ?_
    refine w_goto (pc' := 28) dL_law_1687 rfl rfl ?_
    exact k
  · replace k := k.2 c
    refine w_iconst dL_law_1669 i1_0 ?_
    exact w_ireturn dL_law_1670 rfl k
theorem bL_law_1675 {d : Nat} {h : HP} {Q : Out → HP → Prop} {v0 : Nat} {v1 : Nat} {v2 : Nat} {v3 : Nat} {v4 : Nat} {v5 : Int32} {u6 : Option Value} {u7 : Option Value} {s0 : Int32} (k : (1 < v2) ∧ ((hK h v2 = 12) ∧ (WP d mX12_isAgreed 0 [some (.ref v2), none, none, none] [] h (KK d mL_law mX12_isAgreed 1676 [some (.ref v0), some (.ref v1), some (.ref v2), some (.ref v3), some (.ref v4), some (.int v5), u6, u7] [.int s0] Q)))) : WP (d + 1) mL_law 1675 [some (.ref v0), some (.ref v1), some (.ref v2), some (.ref v3), some (.ref v4), some (.int v5), u6, u7] [.int s0] h Q := by
  refine w_aload_n dL_law_1675 rfl ?_
  obtain ⟨g1, k⟩ := k
  obtain ⟨g2, k⟩ := k
  exact w_virt (as1 := [.ref v2]) (as2 := [.ref v2]) (rest := [.int s0]) (lo2 := [some (.ref v2), none, none, none]) dL_law_1676 c_13_191 rfl rfl rfl (Nat.le_of_ble_eq_true rfl) (Nat.le_of_ble_eq_true rfl) rfl (Nat.le_of_ble_eq_true rfl) rfl rfl g1 g2 k
theorem bL_law_1679 {d : Nat} {h : HP} {Q : Out → HP → Prop} {v0 : Nat} {v1 : Nat} {v2 : Nat} {v3 : Nat} {v4 : Nat} {v5 : Int32} {u6 : Option Value} {u7 : Option Value} {s0 : Int32} {s1 : Int32} (k : ((s1 = s0) → WP d mL_law 28 [some (.ref v0), some (.ref v1), some (.ref v2), some (.ref v3), some (.ref v4), some (.int (v5 + (5 : Int32))), u6, u7] [] h Q) ∧ ((¬ (s1 = s0)) → Q (.inl (some (.int (0 : Int32)))) h)) : WP d mL_law 1679 [some (.ref v0), some (.ref v1), some (.ref v2), some (.ref v3), some (.ref v4), some (.int v5), u6, u7] [.int s0, .int s1] h Q := by
  refine w_ic_eq (pc' := 1684) dL_law_1679 rfl rfl ⟨fun c => ?_, fun c => ?_⟩
  · replace k := k.1 c
    refine w_iinc (lo' := [some (.ref v0), some (.ref v1), some (.ref v2), some (.ref v3), some (.ref v4), some (.int (v5 + (5 : Int32))), u6, u7]) dL_law_1684 rfl i1_5 rfl ?_
    refine w_goto (pc' := 28) dL_law_1687 rfl rfl ?_
    exact k
  · replace k := k.2 c
    refine w_iconst dL_law_1682 i1_0 ?_
    exact w_ireturn dL_law_1683 rfl k
