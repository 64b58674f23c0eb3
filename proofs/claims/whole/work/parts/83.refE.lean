/-! ===== the reference: prepared, accepted, counts ===== -/
section REFN
variable {S : SI} {F : SF} {e : EX} {M : SI} {G : SF} {c : Nat × Nat × Nat × (Nat → Int32)} {h : HP} {d : Nat} {Q : Out → HP → Prop} {n q l : Nat}
theorem x_prepared {m j : Nat} {w : RW} (hr : RC S F e (M, G, c) h) (hM : M 1000 0 = 0) (hm : m < 5) (hj : j < 4) (hw : ∀ i, i < 24 → M 49 i = w i) (hw6 : w 6 = Int32.ofNat j) (hq : M 39 0 = Int32.ofNat q) (hq60 : q ≤ 60) {u2' u3 : Option Value} (k : ∀ h', RC S F e ((preparedP (M, G) m w).1, (preparedP (M, G) m w).2, c) h' → Q (.inl none) h') : WP (d + 1) mX12_prepared 0 [some (.ref 210), some (.int (Int32.ofNat m)), u2', u3] [] h Q := by
  have w1 := hw 1 (by decide)
  have w3 := hw 3 (by decide)
  have w6 := (hw 6 (by decide)).trans hw6
  have en : nt (w 6) = j := nt_of hw6 (by omega)
  unfold preparedP at k
  simp only [en] at k
  have r1 := rm_27 (4 * m + j) (w 3) hr
  have hM1 : u2 M 27 (4 * m + j) (w 3) 1000 0 = 0 := hM
  have a49 := qA_49 r1 hM1
  have e3 : u2 M 27 (4 * m + j) (w 3) 49 3 = w 3 := w3
  have e1 : u2 M 27 (4 * m + j) (w 3) 49 1 = w 1 := w1
  have hq1 : u2 M 27 (4 * m + j) (w 3) 39 0 = Int32.ofNat q := hq
  refine bX12_prepared_0 ?_
  simp (disch := omega) only [q0 hr hM, qR_49 hr hM, qK_49 hr hM, qi_49 hr hM, qA_49 hr hM, qR_27 hr hM, qK_27 hr hM, qi_27 hr hM, qA_27 hr hM, ti_1 hr hM, tc_1, ti_3 hr hM, tc_3, ti_6 hr hM, tc_6, w3, w6, a49, e3, e1, o_c, o_add, o_addn, o_nadd, o_muln, o_le, o_lt, o_nle, o_len, o_nlt, o_ltn, o_eq, o_eqn, o_neq, o_sub1, true_and]
  refine ⟨fun a => ?_, fun a => ?_⟩
  · rw [if_neg (Int32.not_lt.mpr a)] at k
    exact k h hr
  · rw [if_pos (Int32.not_le.mp a)] at k
    refine bX12_prepared_54 ⟨by decide, q0 r1 hM1, x_sends r1 hM1 hq1 hq60 ?_⟩
    intro h2 hr2
    rw [KK_ret]
    by_cases c6 : q < 60
    · rw [at_ne c6]
      have a0 : ∀ (w' : RW) s i, s ≠ 37 → s ≠ 39 → s ≠ 40 → (snd (u2 M 27 (4 * m + j) (w 3), G) w' FP.fconst0).1 s i = u2 M 27 (4 * m + j) (w 3) s i := fun w' s i h1 h2 h3 => snd_ne h1 h2 h3 i
      have hM2 : (snd (u2 M 27 (4 * m + j) (w 3), G) (w4 5 (Int32.ofNat m) (w 1) (w 3)) FP.fconst0).1 1000 0 = 0 := (a0 _ _ _ (by decide) (by decide) (by decide)).trans hM
      have e28 : (snd (u2 M 27 (4 * m + j) (w 3), G) (w4 5 (Int32.ofNat m) (w 1) (w 3)) FP.fconst0).1 28 (4 * m + j) = M 28 (4 * m + j) := a0 _ _ _ (by decide) (by decide) (by decide)
      have r3 := rm_37 (24 * q + 4) (M 28 (4 * m + j)) hr2
      rw [snd_wu (P := (u2 M 27 (4 * m + j) (w 3), G)) hq1 c6 (by decide)] at r3
      have hM3 : (snd (u2 M 27 (4 * m + j) (w 3), G) (wu (w4 5 (Int32.ofNat m) (w 1) (w 3)) 4 (M 28 (4 * m + j))) FP.fconst0).1 1000 0 = 0 := (a0 _ _ _ (by decide) (by decide) (by decide)).trans hM
      have b29 := qA_29 r3 hM3
      have e29 : (snd (u2 M 27 (4 * m + j) (w 3), G) (wu (w4 5 (Int32.ofNat m) (w 1) (w 3)) 4 (M 28 (4 * m + j))) FP.fconst0).1 29 (4 * m + j) = M 29 (4 * m + j) := a0 _ _ _ (by decide) (by decide) (by decide)
      have r4 := rm_37 (24 * q + 5) (M 29 (4 * m + j)) r3
      rw [snd_wu (P := (u2 M 27 (4 * m + j) (w 3), G)) hq1 c6 (by decide)] at r4
      have hM4 : (snd (u2 M 27 (4 * m + j) (w 3), G) (wu (wu (w4 5 (Int32.ofNat m) (w 1) (w 3)) 4 (M 28 (4 * m + j))) 5 (M 29 (4 * m + j))) FP.fconst0).1 1000 0 = 0 := (a0 _ _ _ (by decide) (by decide) (by decide)).trans hM
      have b49 := qA_49 r4 hM4
      have e6 : (snd (u2 M 27 (4 * m + j) (w 3), G) (wu (wu (w4 5 (Int32.ofNat m) (w 1) (w 3)) 4 (M 28 (4 * m + j))) 5 (M 29 (4 * m + j))) FP.fconst0).1 49 6 = w 6 := (a0 _ _ _ (by decide) (by decide) (by decide)).trans (hw 6 (by decide))
      have r5 := rm_37 (24 * q + 6) (w 6) r4
      rw [snd_wu (P := (u2 M 27 (4 * m + j) (w 3), G)) hq1 c6 (by decide)] at r5
      refine bX12_prepared_57 ⟨fun w2 => absurd w2 (by rw [o_ne1 _ (by omega)]; exact id), fun _ => ?_⟩
      simp (disch := omega) only [q0 hr2 hM2, qR_28 hr2 hM2, qK_28 hr2 hM2, qi_28 hr2 hM2, qA_28 hr2 hM2, qR_29 hr2 hM2, qK_29 hr2 hM2, qi_29 hr2 hM2, qA_29 hr2 hM2, qR_37 hr2 hM2, qK_37 hr2 hM2, qi_37 hr2 hM2, qA_37 hr2 hM2, qR_49 hr2 hM2, qK_49 hr2 hM2, qi_49 hr2 hM2, qA_49 hr2 hM2, ti_6 hr2 hM2, tc_6, e28, b29, e29, b49, e6, o_c, o_add, o_addn, o_nadd, o_muln, o_le, o_lt, o_nle, o_len, o_nlt, o_ltn, o_eq, o_eqn, o_neq, o_sub1, true_and]
      refine bX12_prepared_106 ?_
      simp (disch := omega) only [q0 r4 hM4, qR_37 r4 hM4, qK_37 r4 hM4, qi_37 r4 hM4, qA_37 r4 hM4, o_c, o_add, o_addn, o_nadd, o_muln, o_le, o_lt, o_nle, o_len, o_nlt, o_ltn, o_eq, o_eqn, o_neq, o_sub1, true_and]
      exact k _ r5
    · obtain rfl : q = 60 := by omega
      rw [at_full]
      refine bX12_prepared_57 ⟨fun _ => k _ ?_, fun w2 => absurd rfl w2⟩
      rw [snd_full (P := (u2 M 27 (4 * m + j) (w 3), G)) (w' := w4 5 (Int32.ofNat m) (w 1) (w 3)) (x' := FP.fconst0) hq1]
      exact hr2
theorem x_accepted {m j : Nat} {w : RW} (hr : RC S F e (M, G, c) h) (hM : M 1000 0 = 0) (hm : m < 5) (hj : j < 4) (hw : ∀ i, i < 24 → M 49 i = w i) (hw6 : w 6 = Int32.ofNat j) (hq : M 39 0 = Int32.ofNat q) (hq60 : q ≤ 60) {u2' u3 : Option Value} (k : ∀ h', RC S F e ((acceptedP (M, G) m w).1, (acceptedP (M, G) m w).2, c) h' → Q (.inl none) h') : WP (d + 1) mX12_accepted 0 [some (.ref 210), some (.int (Int32.ofNat m)), u2', u3] [] h Q := by
  have w1 := hw 1 (by decide)
  have w3 := hw 3 (by decide)
  have w9 := hw 9 (by decide)
  have w6 := (hw 6 (by decide)).trans hw6
  have en : nt (w 6) = j := nt_of hw6 (by omega)
  unfold acceptedP at k
  simp only [en] at k
  have r1 := rm_27 (4 * m + j) (w 3) hr
  have hM1 : u2 M 27 (4 * m + j) (w 3) 1000 0 = 0 := hM
  have a49 := qA_49 r1 hM1
  have e3 : u2 M 27 (4 * m + j) (w 3) 49 3 = w 3 := w3
  have r2 := rm_28 (4 * m + j) (w 3) r1
  have hM2 : u2 (u2 M 27 (4 * m + j) (w 3)) 28 (4 * m + j) (w 3) 1000 0 = 0 := hM
  have b49 := qA_49 r2 hM2
  have e9 : u2 (u2 M 27 (4 * m + j) (w 3)) 28 (4 * m + j) (w 3) 49 9 = w 9 := w9
  have r3 := rm_29 (4 * m + j) (w 9) r2
  have hM3 : u2 (u2 (u2 M 27 (4 * m + j) (w 3)) 28 (4 * m + j) (w 3)) 29 (4 * m + j) (w 9) 1000 0 = 0 := hM
  have c49 := qA_49 r3 hM3
  have f3 : u2 (u2 (u2 M 27 (4 * m + j) (w 3)) 28 (4 * m + j) (w 3)) 29 (4 * m + j) (w 9) 49 3 = w 3 := w3
  have f1 : u2 (u2 (u2 M 27 (4 * m + j) (w 3)) 28 (4 * m + j) (w 3)) 29 (4 * m + j) (w 9) 49 1 = w 1 := w1
  have hq1 : u2 (u2 (u2 M 27 (4 * m + j) (w 3)) 28 (4 * m + j) (w 3)) 29 (4 * m + j) (w 9) 39 0 = Int32.ofNat q := hq
  refine bX12_accepted_0 ?_
  simp (disch := omega) only [q0 hr hM, qR_49 hr hM, qK_49 hr hM, qi_49 hr hM, qA_49 hr hM, qR_27 hr hM, qK_27 hr hM, qi_27 hr hM, qA_27 hr hM, qR_28 hr hM, qK_28 hr hM, qi_28 hr hM, qA_28 hr hM, ti_1 hr hM, tc_1, ti_3 hr hM, tc_3, ti_6 hr hM, tc_6, w3, w6, a49, e3, o_c, o_add, o_addn, o_nadd, o_muln, o_le, o_lt, o_nle, o_len, o_nlt, o_ltn, o_eq, o_eqn, o_neq, o_sub1, true_and]
  refine ⟨fun a => ?_, fun a => bX12_accepted_50 ?_⟩
  · rw [if_pos a] at k
    exact k h hr
  · rw [if_neg a] at k
    simp (disch := omega) only [q0 r1 hM1, qR_49 r1 hM1, qK_49 r1 hM1, qi_49 r1 hM1, qA_49 r1 hM1, qR_28 r1 hM1, qK_28 r1 hM1, qi_28 r1 hM1, qA_28 r1 hM1, qR_29 r1 hM1, qK_29 r1 hM1, qi_29 r1 hM1, qA_29 r1 hM1, ti_1 r1 hM1, tc_1, ti_3 r1 hM1, tc_3, ti_9 r1 hM1, tc_9, b49, c49, e9, f3, f1, o_c, o_add, o_addn, o_nadd, o_muln, o_le, o_lt, o_nle, o_len, o_nlt, o_ltn, o_eq, o_eqn, o_neq, o_sub1, true_and]
    refine bX12_accepted_80 ⟨by decide, q0 r3 hM3, x_sends r3 hM3 hq1 hq60 ?_⟩
    have f6 : u2 (u2 (u2 M 27 (4 * m + j) (w 3)) 28 (4 * m + j) (w 3)) 29 (4 * m + j) (w 9) 49 6 = w 6 := hw 6 (by decide)
    generalize u2 (u2 (u2 M 27 (4 * m + j) (w 3)) 28 (4 * m + j) (w 3)) 29 (4 * m + j) (w 9) = B at *
    intro h2 hr2
    rw [KK_ret]
    by_cases c6 : q < 60
    · rw [at_ne c6]
      have hM4 : (snd (B, G) (w4 7 (Int32.ofNat m) (w 1) (w 3)) FP.fconst0).1 1000 0 = 0 := (snd_ne (by decide) (by decide) (by decide) _).trans hM3
      have e6 : (snd (B, G) (w4 7 (Int32.ofNat m) (w 1) (w 3)) FP.fconst0).1 49 6 = w 6 := by
        exact (snd_ne (by decide) (by decide) (by decide) _).trans f6
      have r5 := rm_37 (24 * q + 6) (w 6) hr2
      rw [snd_wu (P := (B, G)) hq1 c6 (by decide)] at r5
      refine bX12_accepted_83 ⟨fun w2 => absurd w2 (by rw [o_ne1 _ (by omega)]; exact id), fun _ => ?_⟩
      simp (disch := omega) only [q0 hr2 hM4, qR_37 hr2 hM4, qK_37 hr2 hM4, qi_37 hr2 hM4, qA_37 hr2 hM4, qR_49 hr2 hM4, qK_49 hr2 hM4, qi_49 hr2 hM4, qA_49 hr2 hM4, ti_6 hr2 hM4, tc_6, e6, o_c, o_add, o_addn, o_nadd, o_muln, o_le, o_lt, o_nle, o_len, o_nlt, o_ltn, o_eq, o_eqn, o_neq, o_sub1, true_and]
      exact k _ r5
    · obtain rfl : q = 60 := by omega
      rw [at_full]
      refine bX12_accepted_83 ⟨fun _ => k _ ?_, fun w2 => absurd rfl w2⟩
      rw [snd_full (P := (B, G)) (w' := w4 7 (Int32.ofNat m) (w 1) (w 3)) (x' := FP.fconst0) hq1]
      exact hr2
theorem x_counts {m j : Nat} {w : RW} (hr : RC S F e (M, G, c) h) (hM : M 1000 0 = 0) (hm : m < 5) (hj : j < 4) (hw : ∀ i, i < 24 → M 49 i = w i) (hw6 : w 6 = Int32.ofNat j) (hz : M 35 (4 * m + j) = 0 ∨ M 35 (4 * m + j) = 1) {u2' : Option Value} (k : ∀ h', RC S F e (countsS M m w, G, c) h' → Q (.inl none) h') : WP (d + 1) mX12_counts 0 [some (.ref 210), some (.int (Int32.ofNat m)), u2'] [] h Q := by
  have w1 := hw 1 (by decide)
  have w3 := hw 3 (by decide)
  have w6 := (hw 6 (by decide)).trans hw6
  have en : nt (w 6) = j := nt_of hw6 (by omega)
  unfold countsS at k
  simp only [en] at k
  have r1 := rm_36 (4 * m + j) (M 36 (4 * m + j) ||| (1 : Int32) <<< (w 1 &&& 31)) hr
  have hM1 : u2 M 36 (4 * m + j) (M 36 (4 * m + j) ||| (1 : Int32) <<< (w 1 &&& 31)) 1000 0 = 0 := hM
  have a36 := qA_36 r1 hM1
  refine bX12_counts_0 ?_
  simp (disch := omega) only [q0 hr hM, qR_49 hr hM, qK_49 hr hM, qi_49 hr hM, qA_49 hr hM, qR_31 hr hM, qK_31 hr hM, qi_31 hr hM, qA_31 hr hM, qR_35 hr hM, qK_35 hr hM, qi_35 hr hM, qA_35 hr hM, qR_36 hr hM, qK_36 hr hM, qi_36 hr hM, qA_36 hr hM, ti_1 hr hM, tc_1, ti_3 hr hM, tc_3, ti_6 hr hM, tc_6, w1, w3, w6, a36, u2_eq, o_c, o_add, o_addn, o_nadd, o_muln, o_le, o_lt, o_nle, o_len, o_nlt, o_ltn, o_eq, o_eqn, o_neq, o_sub1, true_and]
  refine ⟨fun a => ?_, fun a => ⟨fun b => ?_, fun b => bX12_counts_59 (x_bits ?_)⟩⟩
  · rw [if_neg (fun z => a z.1)] at k
    exact k h hr
  · rw [if_neg (fun z => by rw [b] at z; exact absurd z.2 (by decide))] at k
    exact k h hr
  · have b' : M 35 (4 * m + j) = 1 := hz.resolve_left b
    rw [if_pos ⟨Classical.not_not.mp a, b'⟩, u2_eq] at k
    rw [KK_ret]
    refine bX12_counts_62 ⟨by decide, q0 r1 hM1, x_most r1 hM1 ?_⟩
    rw [KK_ret]
    have em : mostI (u2 M 36 (4 * m + j) (M 36 (4 * m + j) ||| (1 : Int32) <<< (w 1 &&& 31))) = mostI M := rfl
    have e30 : u2 M 36 (4 * m + j) (M 36 (4 * m + j) ||| (1 : Int32) <<< (w 1 &&& 31)) 30 (4 * m + j) = M 30 (4 * m + j) := rfl
    have e32 : u2 M 36 (4 * m + j) (M 36 (4 * m + j) ||| (1 : Int32) <<< (w 1 &&& 31)) 32 (4 * m + j) = M 32 (4 * m + j) := rfl
    rw [em]
    refine bX12_counts_66 ?_
    simp (disch := omega) only [q0 r1 hM1, qR_30 r1 hM1, qK_30 r1 hM1, qi_30 r1 hM1, qA_30 r1 hM1, qR_32 r1 hM1, qK_32 r1 hM1, qi_32 r1 hM1, qA_32 r1 hM1, e30, e32, o_c, o_add, o_addn, o_nadd, o_muln, o_le, o_lt, o_nle, o_len, o_nlt, o_ltn, o_eq, o_eqn, o_neq, o_sub1, true_and]
    refine ⟨fun g => ?_, fun g => ⟨fun f => ?_, fun f => ?_⟩⟩
    · rw [if_neg (fun z => Int32.not_le.mpr g z.1)] at k
      exact k _ r1
    · rw [if_neg (fun z => f z.2)] at k
      exact k _ r1
    · rw [if_pos ⟨Int32.not_lt.mp g, Classical.not_not.mp f⟩] at k
      exact k _ (rm_30 (4 * m + j) (M 32 (4 * m + j)) r1)
end REFN
