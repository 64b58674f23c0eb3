/-! ===== segments: what the program does from a place to the next ===== -/
theorem bL_pass_0 {d : Nat} {h : HP} {Q : Out → HP → Prop} {v0 : Nat} {v1 : Int32} {v2 : Nat} {u3 : Option Value} (k : (1 < v0) ∧ ((hK h v0 = 11) ∧ (WP d mX11_pass 0 [some (.ref v0), some (.int v1), none, none] [] h (KK d mL_pass mX11_pass 4 [some (.ref v0), some (.int v1), some (.ref v2), u3] [.int (0 : Int32), .ref v2] Q)))) : WP (d + 1) mL_pass 0 [some (.ref v0), some (.int v1), some (.ref v2), u3] [] h Q := by
  refine w_aload_n dL_pass_0 rfl ?_
  refine w_iconst dL_pass_1 i1_0 ?_
  refine w_aload_n dL_pass_2 rfl ?_
  refine w_iload_n dL_pass_3 rfl ?_
  obtain ⟨g1, k⟩ := k
  obtain ⟨g2, k⟩ := k
  exact w_virt (as1 := [.int v1, .ref v0]) (as2 := [.ref v0, .int v1]) (rest := [.int (0 : Int32), .ref v2]) (lo2 := [some (.ref v0), some (.int v1), none, none]) dL_pass_4 c_13_33 rfl rfl rfl (Nat.le_of_ble_eq_true rfl) (Nat.le_of_ble_eq_true rfl) rfl (Nat.le_of_ble_eq_true rfl) rfl rfl g1 g2 k
theorem bL_pass_7 {d : Nat} {h : HP} {Q : Out → HP → Prop} {v0 : Nat} {v1 : Int32} {v2 : Nat} {u3 : Option Value} {s0 : UInt32} {s1 : Int32} {s2 : Nat} (k : (nn64 (FP.f2d s0) = true) ∧ ((hK h s2 = 24) ∧ ((inA h s2 s1 = true) ∧ (Q (.inl (some (.int (0 : Int32)))) (sAD h s2 (s1).toNatClampNeg (FP.f2d s0)))))) : WP d mL_pass 7 [some (.ref v0), some (.int v1), some (.ref v2), u3] [.float s0, .int s1, .ref s2] h Q := by
  obtain ⟨g1, k⟩ := k
  refine w_f2d dL_pass_7 g1 ?_
  obtain ⟨g2, k⟩ := k
  obtain ⟨g3, k⟩ := k
  refine w_dastore dL_pass_8 g2 g3 ?_
  refine w_goto (pc' := 15) dL_pass_9 rfl rfl ?_
  refine w_iconst dL_pass_15 i1_0 ?_
  exact w_ireturn dL_pass_16 rfl k
theorem bL_pass_13 {d : Nat} {h : HP} {Q : Out → HP → Prop} {v0 : Nat} {v1 : Int32} {v2 : Nat} {u3 : Option Value} (k : Q (.inl (some (.int (1 : Int32)))) h) : WP d mL_pass 13 [some (.ref v0), some (.int v1), some (.ref v2), u3] [] h Q := by
  refine w_iconst dL_pass_13 i1_1 ?_
  exact w_ireturn dL_pass_14 rfl k
theorem bL_deliver_0 {d : Nat} {h : HP} {Q : Out → HP → Prop} {v0 : Nat} {v1 : Int32} {v2 : Nat} {u3 : Option Value} (k : (1 < v0) ∧ ((hK h v0 = 11) ∧ (WP d mX11_deliver 0 [some (.ref v0), some (.int v1), none, none] [] h (KK d mL_deliver mX11_deliver 4 [some (.ref v0), some (.int v1), some (.ref v2), u3] [.int (0 : Int32), .ref v2] Q)))) : WP (d + 1) mL_deliver 0 [some (.ref v0), some (.int v1), some (.ref v2), u3] [] h Q := by
  refine w_aload_n dL_deliver_0 rfl ?_
  refine w_iconst dL_deliver_1 i1_0 ?_
  refine w_aload_n dL_deliver_2 rfl ?_
  refine w_iload_n dL_deliver_3 rfl ?_
  obtain ⟨g1, k⟩ := k
  obtain ⟨g2, k⟩ := k
  exact w_virt (as1 := [.int v1, .ref v0]) (as2 := [.ref v0, .int v1]) (rest := [.int (0 : Int32), .ref v2]) (lo2 := [some (.ref v0), some (.int v1), none, none]) dL_deliver_4 c_13_37 rfl rfl rfl (Nat.le_of_ble_eq_true rfl) (Nat.le_of_ble_eq_true rfl) rfl (Nat.le_of_ble_eq_true rfl) rfl rfl g1 g2 k
theorem bL_deliver_7 {d : Nat} {h : HP} {Q : Out → HP → Prop} {v0 : Nat} {v1 : Int32} {v2 : Nat} {u3 : Option Value} {s0 : Int32} {s1 : Int32} {s2 : Nat} (k : (hK h s2 = 23) ∧ ((inA h s2 s1 = true) ∧ (Q (.inl (some (.int (0 : Int32)))) (sAL h s2 (s1).toNatClampNeg (Int32.toInt64 s0))))) : WP d mL_deliver 7 [some (.ref v0), some (.int v1), some (.ref v2), u3] [.int s0, .int s1, .ref s2] h Q := by
  refine w_i2l dL_deliver_7 ?_
  obtain ⟨g1, k⟩ := k
  obtain ⟨g2, k⟩ := k
  refine w_lastore dL_deliver_8 g1 g2 ?_
  refine w_goto (pc' := 18) dL_deliver_9 rfl rfl ?_
  refine w_iconst dL_deliver_18 i1_0 ?_
  exact w_ireturn dL_deliver_19 rfl k
theorem bL_deliver_13 {d : Nat} {h : HP} {Q : Out → HP → Prop} {v0 : Nat} {v1 : Int32} {v2 : Nat} {u3 : Option Value} (k : Q (.inl (some (.int (1 : Int32)))) h) : WP d mL_deliver 13 [some (.ref v0), some (.int v1), some (.ref v2), u3] [] h Q := by
  refine w_iconst dL_deliver_13 i1_1 ?_
  exact w_ireturn dL_deliver_14 rfl k
theorem bL_deliver_16 {d : Nat} {h : HP} {Q : Out → HP → Prop} {v0 : Nat} {v1 : Int32} {v2 : Nat} {u3 : Option Value} (k : Q (.inl (some (.int (2 : Int32)))) h) : WP d mL_deliver 16 [some (.ref v0), some (.int v1), some (.ref v2), u3] [] h Q := by
  refine w_iconst dL_deliver_16 i1_2 ?_
  exact w_ireturn dL_deliver_17 rfl k
theorem bL_lose_0 {d : Nat} {h : HP} {Q : Out → HP → Prop} {v0 : Nat} {v1 : Int32} {v2 : Nat} {u3 : Option Value} (k : (1 < v0) ∧ ((hK h v0 = 11) ∧ (WP d mX11_lose 0 [some (.ref v0), some (.int v1)] [] h (KK d mL_lose mX11_lose 4 [some (.ref v0), some (.int v1), some (.ref v2), u3] [.int (0 : Int32), .ref v2] Q)))) : WP (d + 1) mL_lose 0 [some (.ref v0), some (.int v1), some (.ref v2), u3] [] h Q := by
  refine w_aload_n dL_lose_0 rfl ?_
  refine w_iconst dL_lose_1 i1_0 ?_
  refine w_aload_n dL_lose_2 rfl ?_
  refine w_iload_n dL_lose_3 rfl ?_
  obtain ⟨g1, k⟩ := k
  obtain ⟨g2, k⟩ := k
  exact w_virt (as1 := [.int v1, .ref v0]) (as2 := [.ref v0, .int v1]) (rest := [.int (0 : Int32), .ref v2]) (lo2 := [some (.ref v0), some (.int v1)]) dL_lose_4 c_13_42 rfl rfl rfl (Nat.le_of_ble_eq_true rfl) (Nat.le_of_ble_eq_true rfl) rfl (Nat.le_of_ble_eq_true rfl) rfl rfl g1 g2 k
theorem bL_lose_7 {d : Nat} {h : HP} {Q : Out → HP → Prop} {v0 : Nat} {v1 : Int32} {v2 : Nat} {u3 : Option Value} {s0 : Int32} {s1 : Int32} {s2 : Nat} (k : (hK h s2 = 23) ∧ ((inA h s2 s1 = true) ∧ (Q (.inl (some (.int (0 : Int32)))) (sAL h s2 (s1).toNatClampNeg (Int32.toInt64 s0))))) : WP d mL_lose 7 [some (.ref v0), some (.int v1), some (.ref v2), u3] [.int s0, .int s1, .ref s2] h Q := by
  refine w_i2l dL_lose_7 ?_
  obtain ⟨g1, k⟩ := k
  obtain ⟨g2, k⟩ := k
  refine w_lastore dL_lose_8 g1 g2 ?_
  refine w_goto (pc' := 15) dL_lose_9 rfl rfl ?_
  refine w_iconst dL_lose_15 i1_0 ?_
  exact w_ireturn dL_lose_16 rfl k
theorem bL_lose_13 {d : Nat} {h : HP} {Q : Out → HP → Prop} {v0 : Nat} {v1 : Int32} {v2 : Nat} {u3 : Option Value} (k : Q (.inl (some (.int (1 : Int32)))) h) : WP d mL_lose 13 [some (.ref v0), some (.int v1), some (.ref v2), u3] [] h Q := by
  refine w_iconst dL_lose_13 i1_1 ?_
  exact w_ireturn dL_lose_14 rfl k
theorem bL_twice_0 {d : Nat} {h : HP} {Q : Out → HP → Prop} {v0 : Nat} {v1 : Int32} {v2 : Nat} {u3 : Option Value} (k : (1 < v0) ∧ ((hK h v0 = 11) ∧ (WP d mX11_twice 0 [some (.ref v0), some (.int v1), none] [] h (KK d mL_twice mX11_twice 4 [some (.ref v0), some (.int v1), some (.ref v2), u3] [.int (0 : Int32), .ref v2] Q)))) : WP (d + 1) mL_twice 0 [some (.ref v0), some (.int v1), some (.ref v2), u3] [] h Q := by
  refine w_aload_n dL_twice_0 rfl ?_
  refine w_iconst dL_twice_1 i1_0 ?_
  refine w_aload_n dL_twice_2 rfl ?_
  refine w_iload_n dL_twice_3 rfl ?_
  obtain ⟨g1, k⟩ := k
  obtain ⟨g2, k⟩ := k
  exact w_virt (as1 := [.int v1, .ref v0]) (as2 := [.ref v0, .int v1]) (rest := [.int (0 : Int32), .ref v2]) (lo2 := [some (.ref v0), some (.int v1), none]) dL_twice_4 c_13_45 rfl rfl rfl (Nat.le_of_ble_eq_true rfl) (Nat.le_of_ble_eq_true rfl) rfl (Nat.le_of_ble_eq_true rfl) rfl rfl g1 g2 k
theorem bL_twice_7 {d : Nat} {h : HP} {Q : Out → HP → Prop} {v0 : Nat} {v1 : Int32} {v2 : Nat} {u3 : Option Value} {s0 : Int32} {s1 : Int32} {s2 : Nat} (k : (hK h s2 = 23) ∧ ((inA h s2 s1 = true) ∧ (Q (.inl (some (.int (0 : Int32)))) (sAL h s2 (s1).toNatClampNeg (Int32.toInt64 s0))))) : WP d mL_twice 7 [some (.ref v0), some (.int v1), some (.ref v2), u3] [.int s0, .int s1, .ref s2] h Q := by
  refine w_i2l dL_twice_7 ?_
  obtain ⟨g1, k⟩ := k
  obtain ⟨g2, k⟩ := k
  refine w_lastore dL_twice_8 g1 g2 ?_
  refine w_goto (pc' := 15) dL_twice_9 rfl rfl ?_
  refine w_iconst dL_twice_15 i1_0 ?_
  exact w_ireturn dL_twice_16 rfl k
theorem bL_twice_13 {d : Nat} {h : HP} {Q : Out → HP → Prop} {v0 : Nat} {v1 : Int32} {v2 : Nat} {u3 : Option Value} (k : Q (.inl (some (.int (1 : Int32)))) h) : WP d mL_twice 13 [some (.ref v0), some (.int v1), some (.ref v2), u3] [] h Q := by
  refine w_iconst dL_twice_13 i1_1 ?_
  exact w_ireturn dL_twice_14 rfl k
theorem bL_stand_0 {d : Nat} {h : HP} {Q : Out → HP → Prop} {v0 : Nat} {v1 : Int32} {v2 : Nat} {u3 : Option Value} (k : (1 < v0) ∧ ((hK h v0 = 11) ∧ (WP d mX11_stand 0 [some (.ref v0), some (.int v1), none] [] h (KK d mL_stand mX11_stand 4 [some (.ref v0), some (.int v1), some (.ref v2), u3] [.int (0 : Int32), .ref v2] Q)))) : WP (d + 1) mL_stand 0 [some (.ref v0), some (.int v1), some (.ref v2), u3] [] h Q := by
  refine w_aload_n dL_stand_0 rfl ?_
  refine w_iconst dL_stand_1 i1_0 ?_
  refine w_aload_n dL_stand_2 rfl ?_
  refine w_iload_n dL_stand_3 rfl ?_
  obtain ⟨g1, k⟩ := k
  obtain ⟨g2, k⟩ := k
  exact w_virt (as1 := [.int v1, .ref v0]) (as2 := [.ref v0, .int v1]) (rest := [.int (0 : Int32), .ref v2]) (lo2 := [some (.ref v0), some (.int v1), none]) dL_stand_4 c_13_48 rfl rfl rfl (Nat.le_of_ble_eq_true rfl) (Nat.le_of_ble_eq_true rfl) rfl (Nat.le_of_ble_eq_true rfl) rfl rfl g1 g2 k
theorem bL_stand_7 {d : Nat} {h : HP} {Q : Out → HP → Prop} {v0 : Nat} {v1 : Int32} {v2 : Nat} {u3 : Option Value} {s0 : Int32} {s1 : Int32} {s2 : Nat} (k : (hK h s2 = 23) ∧ ((inA h s2 s1 = true) ∧ (Q (.inl (some (.int (0 : Int32)))) (sAL h s2 (s1).toNatClampNeg (Int32.toInt64 s0))))) : WP d mL_stand 7 [some (.ref v0), some (.int v1), some (.ref v2), u3] [.int s0, .int s1, .ref s2] h Q := by
  refine w_i2l dL_stand_7 ?_
  obtain ⟨g1, k⟩ := k
  obtain ⟨g2, k⟩ := k
  refine w_lastore dL_stand_8 g1 g2 ?_
  refine w_goto (pc' := 18) dL_stand_9 rfl rfl ?_
  refine w_iconst dL_stand_18 i1_0 ?_
  exact w_ireturn dL_stand_19 rfl k
theorem bL_stand_13 {d : Nat} {h : HP} {Q : Out → HP → Prop} {v0 : Nat} {v1 : Int32} {v2 : Nat} {u3 : Option Value} (k : Q (.inl (some (.int (1 : Int32)))) h) : WP d mL_stand 13 [some (.ref v0), some (.int v1), some (.ref v2), u3] [] h Q := by
  refine w_iconst dL_stand_13 i1_1 ?_
  exact w_ireturn dL_stand_14 rfl k
theorem bL_stand_16 {d : Nat} {h : HP} {Q : Out → HP → Prop} {v0 : Nat} {v1 : Int32} {v2 : Nat} {u3 : Option Value} (k : Q (.inl (some (.int (2 : Int32)))) h) : WP d mL_stand 16 [some (.ref v0), some (.int v1), some (.ref v2), u3] [] h Q := by
  refine w_iconst dL_stand_16 i1_2 ?_
  exact w_ireturn dL_stand_17 rfl k
theorem bL_beat_0 {d : Nat} {h : HP} {Q : Out → HP → Prop} {v0 : Nat} {v1 : Int32} {v2 : Nat} {u3 : Option Value} (k : (1 < v0) ∧ ((hK h v0 = 11) ∧ (WP d mX11_beat 0 [some (.ref v0), some (.int v1), none] [] h (KK d mL_beat mX11_beat 4 [some (.ref v0), some (.int v1), some (.ref v2), u3] [.int (0 : Int32), .ref v2] Q)))) : WP (d + 1) mL_beat 0 [some (.ref v0), some (.int v1), some (.ref v2), u3] [] h Q := by
  refine w_aload_n dL_beat_0 rfl ?_
  refine w_iconst dL_beat_1 i1_0 ?_
  refine w_aload_n dL_beat_2 rfl ?_
  refine w_iload_n dL_beat_3 rfl ?_
  obtain ⟨g1, k⟩ := k
  obtain ⟨g2, k⟩ := k
  exact w_virt (as1 := [.int v1, .ref v0]) (as2 := [.ref v0, .int v1]) (rest := [.int (0 : Int32), .ref v2]) (lo2 := [some (.ref v0), some (.int v1), none]) dL_beat_4 c_13_51 rfl rfl rfl (Nat.le_of_ble_eq_true rfl) (Nat.le_of_ble_eq_true rfl) rfl (Nat.le_of_ble_eq_true rfl) rfl rfl g1 g2 k
theorem bL_beat_7 {d : Nat} {h : HP} {Q : Out → HP → Prop} {v0 : Nat} {v1 : Int32} {v2 : Nat} {u3 : Option Value} {s0 : Int32} {s1 : Int32} {s2 : Nat} (k : (hK h s2 = 23) ∧ ((inA h s2 s1 = true) ∧ (Q (.inl (some (.int (0 : Int32)))) (sAL h s2 (s1).toNatClampNeg (Int32.toInt64 s0))))) : WP d mL_beat 7 [some (.ref v0), some (.int v1), some (.ref v2), u3] [.int s0, .int s1, .ref s2] h Q := by
  refine w_i2l dL_beat_7 ?_
  obtain ⟨g1, k⟩ := k
  obtain ⟨g2, k⟩ := k
  refine w_lastore dL_beat_8 g1 g2 ?_
  refine w_goto (pc' := 18) dL_beat_9 rfl rfl ?_
  refine w_iconst dL_beat_18 i1_0 ?_
  exact w_ireturn dL_beat_19 rfl k
theorem bL_beat_13 {d : Nat} {h : HP} {Q : Out → HP → Prop} {v0 : Nat} {v1 : Int32} {v2 : Nat} {u3 : Option Value} (k : Q (.inl (some (.int (1 : Int32)))) h) : WP d mL_beat 13 [some (.ref v0), some (.int v1), some (.ref v2), u3] [] h Q := by
  refine w_iconst dL_beat_13 i1_1 ?_
  exact w_ireturn dL_beat_14 rfl k
theorem bL_beat_16 {d : Nat} {h : HP} {Q : Out → HP → Prop} {v0 : Nat} {v1 : Int32} {v2 : Nat} {u3 : Option Value} (k : Q (.inl (some (.int (2 : Int32)))) h) : WP d mL_beat 16 [some (.ref v0), some (.int v1), some (.ref v2), u3] [] h Q := by
  refine w_iconst dL_beat_16 i1_2 ?_
  exact w_ireturn dL_beat_17 rfl k
theorem bL_request_0 {d : Nat} {h : HP} {Q : Out → HP → Prop} {v0 : Nat} {v1 : Int32} {v2 : Int32} {v3 : Int32} {v4 : Int32} {v5 : Nat} {u6 : Option Value} (k : (1 < v0) ∧ ((hK h v0 = 11) ∧ (WP d mX11_request 0 [some (.ref v0), some (.int v1), some (.int v2), some (.int v3), some (.int v4), none, none] [] h (KK d mL_request mX11_request 9 [some (.ref v0), some (.int v1), some (.int v2), some (.int v3), some (.int v4), some (.ref v5), u6] [.int (0 : Int32), .ref v5] Q)))) : WP (d + 1) mL_request 0 [some (.ref v0), some (.int v1), some (.int v2), some (.int v3), some (.int v4), some (.ref v5), u6] [] h Q := by
  refine w_aload dL_request_0 rfl ?_
  refine w_iconst dL_request_2 i1_0 ?_
  refine w_aload_n dL_request_3 rfl ?_
  refine w_iload_n dL_request_4 rfl ?_
  refine w_iload_n dL_request_5 rfl ?_
  refine w_iload_n dL_request_6 rfl ?_
  refine w_iload dL_request_7 rfl ?_
  obtain ⟨g1, k⟩ := k
  obtain ⟨g2, k⟩ := k
  exact w_virt (as1 := [.int v4, .int v3, .int v2, .int v1, .ref v0]) (as2 := [.ref v0, .int v1, .int v2, .int v3, .int v4]) (rest := [.int (0 : Int32), .ref v5]) (lo2 := [some (.ref v0), some (.int v1), some (.int v2), some (.int v3), some (.int v4), none, none]) dL_request_9 c_13_54 rfl rfl rfl (Nat.le_of_ble_eq_true rfl) (Nat.le_of_ble_eq_true rfl) rfl (Nat.le_of_ble_eq_true rfl) rfl rfl g1 g2 k
theorem bL_request_12 {d : Nat} {h : HP} {Q : Out → HP → Prop} {v0 : Nat} {v1 : Int32} {v2 : Int32} {v3 : Int32} {v4 : Int32} {v5 : Nat} {u6 : Option Value} {s0 : Int32} {s1 : Int32} {s2 : Nat} (k : (hK h s2 = 23) ∧ ((inA h s2 s1 = true) ∧ (Q (.inl (some (.int (0 : Int32)))) (sAL h s2 (s1).toNatClampNeg (Int32.toInt64 s0))))) : WP d mL_request 12 [some (.ref v0), some (.int v1), some (.int v2), some (.int v3), some (.int v4), some (.ref v5), u6] [.int s0, .int s1, .ref s2] h Q := by
  refine w_i2l dL_request_12 ?_
  obtain ⟨g1, k⟩ := k
  obtain ⟨g2, k⟩ := k
  refine w_lastore dL_request_13 g1 g2 ?_
  refine w_goto (pc' := 29) dL_request_14 rfl rfl ?_
  refine w_iconst dL_request_29 i1_0 ?_
  exact w_ireturn dL_request_30 rfl k
theorem bL_request_19 {d : Nat} {h : HP} {Q : Out → HP → Prop} {v0 : Nat} {v1 : Int32} {v2 : Int32} {v3 : Int32} {v4 : Int32} {v5 : Nat} {u6 : Option Value} (k : Q (.inl (some (.int (1 : Int32)))) h) : WP d mL_request 19 [some (.ref v0), some (.int v1), some (.int v2), some (.int v3), some (.int v4), some (.ref v5), u6] [] h Q := by
  refine w_iconst dL_request_19 i1_1 ?_
  exact w_ireturn dL_request_20 rfl k
theorem bL_request_23 {d : Nat} {h : HP} {Q : Out → HP → Prop} {v0 : Nat} {v1 : Int32} {v2 : Int32} {v3 : Int32} {v4 : Int32} {v5 : Nat} {u6 : Option Value} (k : Q (.inl (some (.int (2 : Int32)))) h) : WP d mL_request 23 [some (.ref v0), some (.int v1), some (.int v2), some (.int v3), some (.int v4), some (.ref v5), u6] [] h Q := by
  refine w_iconst dL_request_23 i1_2 ?_
  exact w_ireturn dL_request_24 rfl k
theorem bL_request_27 {d : Nat} {h : HP} {Q : Out → HP → Prop} {v0 : Nat} {v1 : Int32} {v2 : Int32} {v3 : Int32} {v4 : Int32} {v5 : Nat} {u6 : Option Value} (k : Q (.inl (some (.int (3 : Int32)))) h) : WP d mL_request 27 [some (.ref v0), some (.int v1), some (.int v2), some (.int v3), some (.int v4), some (.ref v5), u6] [] h Q := by
  refine w_iconst dL_request_27 i1_3 ?_
  exact w_ireturn dL_request_28 rfl k
theorem bL_read_0 {d : Nat} {h : HP} {Q : Out → HP → Prop} {v0 : Nat} {v1 : Int32} {v2 : Nat} {u3 : Option Value} (k : (1 < v0) ∧ ((hK h v0 = 11) ∧ (WP d mX11_read 0 [some (.ref v0), some (.int v1), none, none] [] h (KK d mL_read mX11_read 4 [some (.ref v0), some (.int v1), some (.ref v2), u3] [.int (0 : Int32), .ref v2] Q)))) : WP (d + 1) mL_read 0 [some (.ref v0), some (.int v1), some (.ref v2), u3] [] h Q := by
  refine w_aload_n dL_read_0 rfl ?_
  refine w_iconst dL_read_1 i1_0 ?_
  refine w_aload_n dL_read_2 rfl ?_
  refine w_iload_n dL_read_3 rfl ?_
  obtain ⟨g1, k⟩ := k
  obtain ⟨g2, k⟩ := k
  exact w_virt (as1 := [.int v1, .ref v0]) (as2 := [.ref v0, .int v1]) (rest := [.int (0 : Int32), .ref v2]) (lo2 := [some (.ref v0), some (.int v1), none, none]) dL_read_4 c_13_58 rfl rfl rfl (Nat.le_of_ble_eq_true rfl) (Nat.le_of_ble_eq_true rfl) rfl (Nat.le_of_ble_eq_true rfl) rfl rfl g1 g2 k
theorem bL_read_7 {d : Nat} {h : HP} {Q : Out → HP → Prop} {v0 : Nat} {v1 : Int32} {v2 : Nat} {u3 : Option Value} {s0 : Int32} {s1 : Int32} {s2 : Nat} (k : (hK h s2 = 23) ∧ ((inA h s2 s1 = true) ∧ (Q (.inl (some (.int (0 : Int32)))) (sAL h s2 (s1).toNatClampNeg (Int32.toInt64 s0))))) : WP d mL_read 7 [some (.ref v0), some (.int v1), some (.ref v2), u3] [.int s0, .int s1, .ref s2] h Q := by
  refine w_i2l dL_read_7 ?_
  obtain ⟨g1, k⟩ := k
  obtain ⟨g2, k⟩ := k
  refine w_lastore dL_read_8 g1 g2 ?_
  refine w_goto (pc' := 18) dL_read_9 rfl rfl ?_
  refine w_iconst dL_read_18 i1_0 ?_
  exact w_ireturn dL_read_19 rfl k
theorem bL_read_13 {d : Nat} {h : HP} {Q : Out → HP → Prop} {v0 : Nat} {v1 : Int32} {v2 : Nat} {u3 : Option Value} (k : Q (.inl (some (.int (1 : Int32)))) h) : WP d mL_read 13 [some (.ref v0), some (.int v1), some (.ref v2), u3] [] h Q := by
  refine w_iconst dL_read_13 i1_1 ?_
  exact w_ireturn dL_read_14 rfl k
theorem bL_read_16 {d : Nat} {h : HP} {Q : Out → HP → Prop} {v0 : Nat} {v1 : Int32} {v2 : Nat} {u3 : Option Value} (k : Q (.inl (some (.int (2 : Int32)))) h) : WP d mL_read 16 [some (.ref v0), some (.int v1), some (.ref v2), u3] [] h Q := by
  refine w_iconst dL_read_16 i1_2 ?_
  exact w_ireturn dL_read_17 rfl k
theorem bL_propose_0 {d : Nat} {h : HP} {Q : Out → HP → Prop} {v0 : Nat} {v1 : Int32} {v2 : Int32} {v3 : Int32} {v4 : Nat} {u5 : Option Value} (k : (1 < v0) ∧ ((hK h v0 = 11) ∧ (WP d mX11_propose 0 [some (.ref v0), some (.int v1), some (.int v2), some (.int v3), none] [] h (KK d mL_propose mX11_propose 7 [some (.ref v0), some (.int v1), some (.int v2), some (.int v3), some (.ref v4), u5] [.int (0 : Int32), .ref v4] Q)))) : WP (d + 1) mL_propose 0 [some (.ref v0), some (.int v1), some (.int v2), some (.int v3), some (.ref v4), u5] [] h Q := by
  refine w_aload dL_propose_0 rfl ?_
  refine w_iconst dL_propose_2 i1_0 ?_
  refine w_aload_n dL_propose_3 rfl ?_
  refine w_iload_n dL_propose_4 rfl ?_
  refine w_iload_n dL_propose_5 rfl ?_
  refine w_iload_n dL_propose_6 rfl ?_
  obtain ⟨g1, k⟩ := k
  obtain ⟨g2, k⟩ := k
  exact w_virt (as1 := [.int v3, .int v2, .int v1, .ref v0]) (as2 := [.ref v0, .int v1, .int v2, .int v3]) (rest := [.int (0 : Int32), .ref v4]) (lo2 := [some (.ref v0), some (.int v1), some (.int v2), some (.int v3), none]) dL_propose_7 c_13_61 rfl rfl rfl (Nat.le_of_ble_eq_true rfl) (Nat.le_of_ble_eq_true rfl) rfl (Nat.le_of_ble_eq_true rfl) rfl rfl g1 g2 k
theorem bL_propose_10 {d : Nat} {h : HP} {Q : Out → HP → Prop} {v0 : Nat} {v1 : Int32} {v2 : Int32} {v3 : Int32} {v4 : Nat} {u5 : Option Value} {s0 : Int32} {s1 : Int32} {s2 : Nat} (k : (hK h s2 = 23) ∧ ((inA h s2 s1 = true) ∧ (Q (.inl (some (.int (0 : Int32)))) (sAL h s2 (s1).toNatClampNeg (Int32.toInt64 s0))))) : WP d mL_propose 10 [some (.ref v0), some (.int v1), some (.int v2), some (.int v3), some (.ref v4), u5] [.int s0, .int s1, .ref s2] h Q := by
  refine w_i2l dL_propose_10 ?_
  obtain ⟨g1, k⟩ := k
  obtain ⟨g2, k⟩ := k
  refine w_lastore dL_propose_11 g1 g2 ?_
  refine w_goto (pc' := 27) dL_propose_12 rfl rfl ?_
  refine w_iconst dL_propose_27 i1_0 ?_
  exact w_ireturn dL_propose_28 rfl k
theorem bL_propose_17 {d : Nat} {h : HP} {Q : Out → HP → Prop} {v0 : Nat} {v1 : Int32} {v2 : Int32} {v3 : Int32} {v4 : Nat} {u5 : Option Value} (k : Q (.inl (some (.int (1 : Int32)))) h) : WP d mL_propose 17 [some (.ref v0), some (.int v1), some (.int v2), some (.int v3), some (.ref v4), u5] [] h Q := by
  refine w_iconst dL_propose_17 i1_1 ?_
  exact w_ireturn dL_propose_18 rfl k
theorem bL_propose_21 {d : Nat} {h : HP} {Q : Out → HP → Prop} {v0 : Nat} {v1 : Int32} {v2 : Int32} {v3 : Int32} {v4 : Nat} {u5 : Option Value} (k : Q (.inl (some (.int (2 : Int32)))) h) : WP d mL_propose 21 [some (.ref v0), some (.int v1), some (.int v2), some (.int v3), some (.ref v4), u5] [] h Q := by
  refine w_iconst dL_propose_21 i1_2 ?_
  exact w_ireturn dL_propose_22 rfl k
theorem bL_propose_25 {d : Nat} {h : HP} {Q : Out → HP → Prop} {v0 : Nat} {v1 : Int32} {v2 : Int32} {v3 : Int32} {v4 : Nat} {u5 : Option Value} (k : Q (.inl (some (.int (3 : Int32)))) h) : WP d mL_propose 25 [some (.ref v0), some (.int v1), some (.int v2), some (.int v3), some (.ref v4), u5] [] h Q := by
  refine w_iconst dL_propose_25 i1_3 ?_
  exact w_ireturn dL_propose_26 rfl k
theorem bL_message_0 {d : Nat} {h : HP} {Q : Out → HP → Prop} {v0 : Nat} {v1 : Int32} {v2 : Int32} {v3 : Nat} {u4 : Option Value} (k : (1 < v0) ∧ ((hK h v0 = 11) ∧ (WP d mX11_message 0 [some (.ref v0), some (.int v1), some (.int v2), none] [] h (KK d mL_message mX11_message 5 [some (.ref v0), some (.int v1), some (.int v2), some (.ref v3), u4] [.int (0 : Int32), .ref v3] Q)))) : WP (d + 1) mL_message 0 [some (.ref v0), some (.int v1), some (.int v2), some (.ref v3), u4] [] h Q := by
  refine w_aload_n dL_message_0 rfl ?_
  refine w_iconst dL_message_1 i1_0 ?_
  refine w_aload_n dL_message_2 rfl ?_
  refine w_iload_n dL_message_3 rfl ?_
  refine w_iload_n dL_message_4 rfl ?_
  obtain ⟨g1, k⟩ := k
  obtain ⟨g2, k⟩ := k
  exact w_virt (as1 := [.int v2, .int v1, .ref v0]) (as2 := [.ref v0, .int v1, .int v2]) (rest := [.int (0 : Int32), .ref v3]) (lo2 := [some (.ref v0), some (.int v1), some (.int v2), none]) dL_message_5 c_13_65 rfl rfl rfl (Nat.le_of_ble_eq_true rfl) (Nat.le_of_ble_eq_true rfl) rfl (Nat.le_of_ble_eq_true rfl) rfl rfl g1 g2 k
theorem bL_message_8 {d : Nat} {h : HP} {Q : Out → HP → Prop} {v0 : Nat} {v1 : Int32} {v2 : Int32} {v3 : Nat} {u4 : Option Value} {s0 : Int32} {s1 : Int32} {s2 : Nat} (k : (hK h s2 = 23) ∧ ((inA h s2 s1 = true) ∧ (Q (.inl (some (.int (0 : Int32)))) (sAL h s2 (s1).toNatClampNeg (Int32.toInt64 s0))))) : WP d mL_message 8 [some (.ref v0), some (.int v1), some (.int v2), some (.ref v3), u4] [.int s0, .int s1, .ref s2] h Q := by
  refine w_i2l dL_message_8 ?_
  obtain ⟨g1, k⟩ := k
  obtain ⟨g2, k⟩ := k
  refine w_lastore dL_message_9 g1 g2 ?_
  refine w_goto (pc' := 21) dL_message_10 rfl rfl ?_
  refine w_iconst dL_message_21 i1_0 ?_
  exact w_ireturn dL_message_22 rfl k
theorem bL_message_15 {d : Nat} {h : HP} {Q : Out → HP → Prop} {v0 : Nat} {v1 : Int32} {v2 : Int32} {v3 : Nat} {u4 : Option Value} (k : Q (.inl (some (.int (1 : Int32)))) h) : WP d mL_message 15 [some (.ref v0), some (.int v1), some (.int v2), some (.ref v3), u4] [] h Q := by
  refine w_iconst dL_message_15 i1_1 ?_
  exact w_ireturn dL_message_16 rfl k
theorem bL_message_19 {d : Nat} {h : HP} {Q : Out → HP → Prop} {v0 : Nat} {v1 : Int32} {v2 : Int32} {v3 : Nat} {u4 : Option Value} (k : Q (.inl (some (.int (2 : Int32)))) h) : WP d mL_message 19 [some (.ref v0), some (.int v1), some (.int v2), some (.ref v3), u4] [] h Q := by
  refine w_iconst dL_message_19 i1_2 ?_
  exact w_ireturn dL_message_20 rfl k
theorem bL_of_0 {d : Nat} {h : HP} {Q : Out → HP → Prop} {v0 : Nat} {v1 : Int32} {v2 : Int32} {v3 : Nat} {u4 : Option Value} (k : (1 < v0) ∧ ((hK h v0 = 11) ∧ (WP d mX11_of 0 [some (.ref v0), some (.int v1), some (.int v2), none] [] h (KK d mL_of mX11_of 5 [some (.ref v0), some (.int v1), some (.int v2), some (.ref v3), u4] [.int (0 : Int32), .ref v3] Q)))) : WP (d + 1) mL_of 0 [some (.ref v0), some (.int v1), some (.int v2), some (.ref v3), u4] [] h Q := by
  refine w_aload_n dL_of_0 rfl ?_
  refine w_iconst dL_of_1 i1_0 ?_
  refine w_aload_n dL_of_2 rfl ?_
  refine w_iload_n dL_of_3 rfl ?_
  refine w_iload_n dL_of_4 rfl ?_
  obtain ⟨g1, k⟩ := k
  obtain ⟨g2, k⟩ := k
  exact w_virt (as1 := [.int v2, .int v1, .ref v0]) (as2 := [.ref v0, .int v1, .int v2]) (rest := [.int (0 : Int32), .ref v3]) (lo2 := [some (.ref v0), some (.int v1), some (.int v2), none]) dL_of_5 c_13_69 rfl rfl rfl (Nat.le_of_ble_eq_true rfl) (Nat.le_of_ble_eq_true rfl) rfl (Nat.le_of_ble_eq_true rfl) rfl rfl g1 g2 k
theorem bL_of_8 {d : Nat} {h : HP} {Q : Out → HP → Prop} {v0 : Nat} {v1 : Int32} {v2 : Int32} {v3 : Nat} {u4 : Option Value} {s0 : Int32} {s1 : Int32} {s2 : Nat} (k : (hK h s2 = 23) ∧ ((inA h s2 s1 = true) ∧ (Q (.inl (some (.int (0 : Int32)))) (sAL h s2 (s1).toNatClampNeg (Int32.toInt64 s0))))) : WP d mL_of 8 [some (.ref v0), some (.int v1), some (.int v2), some (.ref v3), u4] [.int s0, .int s1, .ref s2] h Q := by
  refine w_i2l dL_of_8 ?_
  obtain ⟨g1, k⟩ := k
  obtain ⟨g2, k⟩ := k
  refine w_lastore dL_of_9 g1 g2 ?_
  refine w_goto (pc' := 21) dL_of_10 rfl rfl ?_
  refine w_iconst dL_of_21 i1_0 ?_
  exact w_ireturn dL_of_22 rfl k
theorem bL_of_15 {d : Nat} {h : HP} {Q : Out → HP → Prop} {v0 : Nat} {v1 : Int32} {v2 : Int32} {v3 : Nat} {u4 : Option Value} (k : Q (.inl (some (.int (1 : Int32)))) h) : WP d mL_of 15 [some (.ref v0), some (.int v1), some (.int v2), some (.ref v3), u4] [] h Q := by
  refine w_iconst dL_of_15 i1_1 ?_
  exact w_ireturn dL_of_16 rfl k
theorem bL_of_19 {d : Nat} {h : HP} {Q : Out → HP → Prop} {v0 : Nat} {v1 : Int32} {v2 : Int32} {v3 : Nat} {u4 : Option Value} (k : Q (.inl (some (.int (2 : Int32)))) h) : WP d mL_of 19 [some (.ref v0), some (.int v1), some (.int v2), some (.ref v3), u4] [] h Q := by
  refine w_iconst dL_of_19 i1_2 ?_
  exact w_ireturn dL_of_20 rfl k
theorem bL_entry_0 {d : Nat} {h : HP} {Q : Out → HP → Prop} {v0 : Nat} {v1 : Int32} {v2 : Int32} {v3 : Int32} {v4 : Nat} {u5 : Option Value} (k : (1 < v0) ∧ ((hK h v0 = 11) ∧ (WP d mX11_entry 0 [some (.ref v0), some (.int v1), some (.int v2), some (.int v3), none] [] h (KK d mL_entry mX11_entry 7 [some (.ref v0), some (.int v1), some (.int v2), some (.int v3), some (.ref v4), u5] [.int (0 : Int32), .ref v4] Q)))) : WP (d + 1) mL_entry 0 [some (.ref v0), some (.int v1), some (.int v2), some (.int v3), some (.ref v4), u5] [] h Q := by
  refine w_aload dL_entry_0 rfl ?_
  refine w_iconst dL_entry_2 i1_0 ?_
  refine w_aload_n dL_entry_3 rfl ?_
  refine w_iload_n dL_entry_4 rfl ?_
  refine w_iload_n dL_entry_5 rfl ?_
  refine w_iload_n dL_entry_6 rfl ?_
  obtain ⟨g1, k⟩ := k
  obtain ⟨g2, k⟩ := k
  exact w_virt (as1 := [.int v3, .int v2, .int v1, .ref v0]) (as2 := [.ref v0, .int v1, .int v2, .int v3]) (rest := [.int (0 : Int32), .ref v4]) (lo2 := [some (.ref v0), some (.int v1), some (.int v2), some (.int v3), none]) dL_entry_7 c_13_72 rfl rfl rfl (Nat.le_of_ble_eq_true rfl) (Nat.le_of_ble_eq_true rfl) rfl (Nat.le_of_ble_eq_true rfl) rfl rfl g1 g2 k
theorem bL_entry_10 {d : Nat} {h : HP} {Q : Out → HP → Prop} {v0 : Nat} {v1 : Int32} {v2 : Int32} {v3 : Int32} {v4 : Nat} {u5 : Option Value} {s0 : Int32} {s1 : Int32} {s2 : Nat} (k : (hK h s2 = 23) ∧ ((inA h s2 s1 = true) ∧ (Q (.inl (some (.int (0 : Int32)))) (sAL h s2 (s1).toNatClampNeg (Int32.toInt64 s0))))) : WP d mL_entry 10 [some (.ref v0), some (.int v1), some (.int v2), some (.int v3), some (.ref v4), u5] [.int s0, .int s1, .ref s2] h Q := by
  refine w_i2l dL_entry_10 ?_
  obtain ⟨g1, k⟩ := k
  obtain ⟨g2, k⟩ := k
  refine w_lastore dL_entry_11 g1 g2 ?_
  refine w_goto (pc' := 23) dL_entry_12 rfl rfl ?_
  refine w_iconst dL_entry_23 i1_0 ?_
  exact w_ireturn dL_entry_24 rfl k
theorem bL_entry_17 {d : Nat} {h : HP} {Q : Out → HP → Prop} {v0 : Nat} {v1 : Int32} {v2 : Int32} {v3 : Int32} {v4 : Nat} {u5 : Option Value} (k : Q (.inl (some (.int (1 : Int32)))) h) : WP d mL_entry 17 [some (.ref v0), some (.int v1), some (.int v2), some (.int v3), some (.ref v4), u5] [] h Q := by
  refine w_iconst dL_entry_17 i1_1 ?_
  exact w_ireturn dL_entry_18 rfl k
theorem bL_entry_21 {d : Nat} {h : HP} {Q : Out → HP → Prop} {v0 : Nat} {v1 : Int32} {v2 : Int32} {v3 : Int32} {v4 : Nat} {u5 : Option Value} (k : Q (.inl (some (.int (2 : Int32)))) h) : WP d mL_entry 21 [some (.ref v0), some (.int v1), some (.int v2), some (.int v3), some (.ref v4), u5] [] h Q := by
  refine w_iconst dL_entry_21 i1_2 ?_
  exact w_ireturn dL_entry_22 rfl k
theorem bL_clock_0 {d : Nat} {h : HP} {Q : Out → HP → Prop} {v0 : Nat} {v1 : Int32} {v2 : Nat} {u3 : Option Value} (k : (1 < v0) ∧ ((hK h v0 = 11) ∧ (WP d mX11_clock 0 [some (.ref v0), some (.int v1)] [] h (KK d mL_clock mX11_clock 4 [some (.ref v0), some (.int v1), some (.ref v2), u3] [.int (0 : Int32), .ref v2] Q)))) : WP (d + 1) mL_clock 0 [some (.ref v0), some (.int v1), some (.ref v2), u3] [] h Q := by
  refine w_aload_n dL_clock_0 rfl ?_
  refine w_iconst dL_clock_1 i1_0 ?_
  refine w_aload_n dL_clock_2 rfl ?_
  refine w_iload_n dL_clock_3 rfl ?_
  obtain ⟨g1, k⟩ := k
  obtain ⟨g2, k⟩ := k
  exact w_virt (as1 := [.int v1, .ref v0]) (as2 := [.ref v0, .int v1]) (rest := [.int (0 : Int32), .ref v2]) (lo2 := [some (.ref v0), some (.int v1)]) dL_clock_4 c_13_75 rfl rfl rfl (Nat.le_of_ble_eq_true rfl) (Nat.le_of_ble_eq_true rfl) rfl (Nat.le_of_ble_eq_true rfl) rfl rfl g1 g2 k
theorem bL_clock_7 {d : Nat} {h : HP} {Q : Out → HP → Prop} {v0 : Nat} {v1 : Int32} {v2 : Nat} {u3 : Option Value} {s0 : UInt32} {s1 : Int32} {s2 : Nat} (k : (nn64 (FP.f2d s0) = true) ∧ ((hK h s2 = 24) ∧ ((inA h s2 s1 = true) ∧ (Q (.inl (some (.int (0 : Int32)))) (sAD h s2 (s1).toNatClampNeg (FP.f2d s0)))))) : WP d mL_clock 7 [some (.ref v0), some (.int v1), some (.ref v2), u3] [.float s0, .int s1, .ref s2] h Q := by
  obtain ⟨g1, k⟩ := k
  refine w_f2d dL_clock_7 g1 ?_
  obtain ⟨g2, k⟩ := k
  obtain ⟨g3, k⟩ := k
  refine w_dastore dL_clock_8 g2 g3 ?_
  refine w_goto (pc' := 15) dL_clock_9 rfl rfl ?_
  refine w_iconst dL_clock_15 i1_0 ?_
  exact w_ireturn dL_clock_16 rfl k
theorem bL_clock_13 {d : Nat} {h : HP} {Q : Out → HP → Prop} {v0 : Nat} {v1 : Int32} {v2 : Nat} {u3 : Option Value} (k : Q (.inl (some (.int (1 : Int32)))) h) : WP d mL_clock 13 [some (.ref v0), some (.int v1), some (.ref v2), u3] [] h Q := by
  refine w_iconst dL_clock_13 i1_1 ?_
  exact w_ireturn dL_clock_14 rfl k
theorem bL_lease_0 {d : Nat} {h : HP} {Q : Out → HP → Prop} {v0 : Nat} {v1 : Int32} {v2 : Nat} {u3 : Option Value} (k : (1 < v0) ∧ ((hK h v0 = 11) ∧ (WP d mX11_lease 0 [some (.ref v0), some (.int v1), none] [] h (KK d mL_lease mX11_lease 4 [some (.ref v0), some (.int v1), some (.ref v2), u3] [.int (0 : Int32), .ref v2] Q)))) : WP (d + 1) mL_lease 0 [some (.ref v0), some (.int v1), some (.ref v2), u3] [] h Q := by
  refine w_aload_n dL_lease_0 rfl ?_
  refine w_iconst dL_lease_1 i1_0 ?_
  refine w_aload_n dL_lease_2 rfl ?_
  refine w_iload_n dL_lease_3 rfl ?_
  obtain ⟨g1, k⟩ := k
  obtain ⟨g2, k⟩ := k
  exact w_virt (as1 := [.int v1, .ref v0]) (as2 := [.ref v0, .int v1]) (rest := [.int (0 : Int32), .ref v2]) (lo2 := [some (.ref v0), some (.int v1), none]) dL_lease_4 c_13_78 rfl rfl rfl (Nat.le_of_ble_eq_true rfl) (Nat.le_of_ble_eq_true rfl) rfl (Nat.le_of_ble_eq_true rfl) rfl rfl g1 g2 k
theorem bL_lease_7 {d : Nat} {h : HP} {Q : Out → HP → Prop} {v0 : Nat} {v1 : Int32} {v2 : Nat} {u3 : Option Value} {s0 : UInt32} {s1 : Int32} {s2 : Nat} (k : (nn64 (FP.f2d s0) = true) ∧ ((hK h s2 = 24) ∧ ((inA h s2 s1 = true) ∧ (Q (.inl (some (.int (0 : Int32)))) (sAD h s2 (s1).toNatClampNeg (FP.f2d s0)))))) : WP d mL_lease 7 [some (.ref v0), some (.int v1), some (.ref v2), u3] [.float s0, .int s1, .ref s2] h Q := by
  obtain ⟨g1, k⟩ := k
  refine w_f2d dL_lease_7 g1 ?_
  obtain ⟨g2, k⟩ := k
  obtain ⟨g3, k⟩ := k
  refine w_dastore dL_lease_8 g2 g3 ?_
  refine w_goto (pc' := 15) dL_lease_9 rfl rfl ?_
  refine w_iconst dL_lease_15 i1_0 ?_
  exact w_ireturn dL_lease_16 rfl k
theorem bL_lease_13 {d : Nat} {h : HP} {Q : Out → HP → Prop} {v0 : Nat} {v1 : Int32} {v2 : Nat} {u3 : Option Value} (k : Q (.inl (some (.int (1 : Int32)))) h) : WP d mL_lease 13 [some (.ref v0), some (.int v1), some (.ref v2), u3] [] h Q := by
  refine w_iconst dL_lease_13 i1_1 ?_
  exact w_ireturn dL_lease_14 rfl k
theorem bL_decision_0 {d : Nat} {h : HP} {Q : Out → HP → Prop} {v0 : Nat} {v1 : Int32} {v2 : Int32} {v3 : Int32} {v4 : Nat} {u5 : Option Value} (k : (1 < v0) ∧ ((hK h v0 = 11) ∧ (WP d mX11_decision 0 [some (.ref v0), some (.int v1), some (.int v2), some (.int v3), none] [] h (KK d mL_decision mX11_decision 7 [some (.ref v0), some (.int v1), some (.int v2), some (.int v3), some (.ref v4), u5] [.int (0 : Int32), .ref v4] Q)))) : WP (d + 1) mL_decision 0 [some (.ref v0), some (.int v1), some (.int v2), some (.int v3), some (.ref v4), u5] [] h Q := by
  refine w_aload dL_decision_0 rfl ?_
  refine w_iconst dL_decision_2 i1_0 ?_
  refine w_aload_n dL_decision_3 rfl ?_
  refine w_iload_n dL_decision_4 rfl ?_
  refine w_iload_n dL_decision_5 rfl ?_
  refine w_iload_n dL_decision_6 rfl ?_
  obtain ⟨g1, k⟩ := k
  obtain ⟨g2, k⟩ := k
  exact w_virt (as1 := [.int v3, .int v2, .int v1, .ref v0]) (as2 := [.ref v0, .int v1, .int v2, .int v3]) (rest := [.int (0 : Int32), .ref v4]) (lo2 := [some (.ref v0), some (.int v1), some (.int v2), some (.int v3), none]) dL_decision_7 c_13_81 rfl rfl rfl (Nat.le_of_ble_eq_true rfl) (Nat.le_of_ble_eq_true rfl) rfl (Nat.le_of_ble_eq_true rfl) rfl rfl g1 g2 k
theorem bL_decision_10 {d : Nat} {h : HP} {Q : Out → HP → Prop} {v0 : Nat} {v1 : Int32} {v2 : Int32} {v3 : Int32} {v4 : Nat} {u5 : Option Value} {s0 : Int32} {s1 : Int32} {s2 : Nat} (k : (hK h s2 = 23) ∧ ((inA h s2 s1 = true) ∧ (Q (.inl (some (.int (0 : Int32)))) (sAL h s2 (s1).toNatClampNeg (Int32.toInt64 s0))))) : WP d mL_decision 10 [some (.ref v0), some (.int v1), some (.int v2), some (.int v3), some (.ref v4), u5] [.int s0, .int s1, .ref s2] h Q := by
  refine w_i2l dL_decision_10 ?_
  obtain ⟨g1, k⟩ := k
  obtain ⟨g2, k⟩ := k
  refine w_lastore dL_decision_11 g1 g2 ?_
  refine w_goto (pc' := 23) dL_decision_12 rfl rfl ?_
  refine w_iconst dL_decision_23 i1_0 ?_
  exact w_ireturn dL_decision_24 rfl k
theorem bL_decision_17 {d : Nat} {h : HP} {Q : Out → HP → Prop} {v0 : Nat} {v1 : Int32} {v2 : Int32} {v3 : Int32} {v4 : Nat} {u5 : Option Value} (k : Q (.inl (some (.int (1 : Int32)))) h) : WP d mL_decision 17 [some (.ref v0), some (.int v1), some (.int v2), some (.int v3), some (.ref v4), u5] [] h Q := by
  refine w_iconst dL_decision_17 i1_1 ?_
  exact w_ireturn dL_decision_18 rfl k
theorem bL_decision_21 {d : Nat} {h : HP} {Q : Out → HP → Prop} {v0 : Nat} {v1 : Int32} {v2 : Int32} {v3 : Int32} {v4 : Nat} {u5 : Option Value} (k : Q (.inl (some (.int (2 : Int32)))) h) : WP d mL_decision 21 [some (.ref v0), some (.int v1), some (.int v2), some (.int v3), some (.ref v4), u5] [] h Q := by
  refine w_iconst dL_decision_21 i1_2 ?_
  exact w_ireturn dL_decision_22 rfl k
theorem bL_act_0 {d : Nat} {h : HP} {Q : Out → HP → Prop} {v0 : Nat} {v1 : Int32} {v2 : Int32} {v3 : Nat} {u4 : Option Value} (k : (1 < v0) ∧ ((hK h v0 = 11) ∧ (WP d mX11_act 0 [some (.ref v0), some (.int v1), some (.int v2), none] [] h (KK d mL_act mX11_act 5 [some (.ref v0), some (.int v1), some (.int v2), some (.ref v3), u4] [.int (0 : Int32), .ref v3] Q)))) : WP (d + 1) mL_act 0 [some (.ref v0), some (.int v1), some (.int v2), some (.ref v3), u4] [] h Q := by
  refine w_aload_n dL_act_0 rfl ?_
  refine w_iconst dL_act_1 i1_0 ?_
  refine w_aload_n dL_act_2 rfl ?_
  refine w_iload_n dL_act_3 rfl ?_
  refine w_iload_n dL_act_4 rfl ?_
  obtain ⟨g1, k⟩ := k
  obtain ⟨g2, k⟩ := k
  exact w_virt (as1 := [.int v2, .int v1, .ref v0]) (as2 := [.ref v0, .int v1, .int v2]) (rest := [.int (0 : Int32), .ref v3]) (lo2 := [some (.ref v0), some (.int v1), some (.int v2), none]) dL_act_5 c_13_84 rfl rfl rfl (Nat.le_of_ble_eq_true rfl) (Nat.le_of_ble_eq_true rfl) rfl (Nat.le_of_ble_eq_true rfl) rfl rfl g1 g2 k
theorem bL_act_8 {d : Nat} {h : HP} {Q : Out → HP → Prop} {v0 : Nat} {v1 : Int32} {v2 : Int32} {v3 : Nat} {u4 : Option Value} {s0 : Int32} {s1 : Int32} {s2 : Nat} (k : (hK h s2 = 23) ∧ ((inA h s2 s1 = true) ∧ (Q (.inl (some (.int (0 : Int32)))) (sAL h s2 (s1).toNatClampNeg (Int32.toInt64 s0))))) : WP d mL_act 8 [some (.ref v0), some (.int v1), some (.int v2), some (.ref v3), u4] [.int s0, .int s1, .ref s2] h Q := by
  refine w_i2l dL_act_8 ?_
  obtain ⟨g1, k⟩ := k
  obtain ⟨g2, k⟩ := k
  refine w_lastore dL_act_9 g1 g2 ?_
  refine w_goto (pc' := 21) dL_act_10 rfl rfl ?_
  refine w_iconst dL_act_21 i1_0 ?_
  exact w_ireturn dL_act_22 rfl k
theorem bL_act_15 {d : Nat} {h : HP} {Q : Out → HP → Prop} {v0 : Nat} {v1 : Int32} {v2 : Int32} {v3 : Nat} {u4 : Option Value} (k : Q (.inl (some (.int (1 : Int32)))) h) : WP d mL_act 15 [some (.ref v0), some (.int v1), some (.int v2), some (.ref v3), u4] [] h Q := by
  refine w_iconst dL_act_15 i1_1 ?_
  exact w_ireturn dL_act_16 rfl k
theorem bL_act_19 {d : Nat} {h : HP} {Q : Out → HP → Prop} {v0 : Nat} {v1 : Int32} {v2 : Int32} {v3 : Nat} {u4 : Option Value} (k : Q (.inl (some (.int (2 : Int32)))) h) : WP d mL_act 19 [some (.ref v0), some (.int v1), some (.int v2), some (.ref v3), u4] [] h Q := by
  refine w_iconst dL_act_19 i1_2 ?_
  exact w_ireturn dL_act_20 rfl k
