/-! ===== the invariant: toggle, read ===== -/
section CALLS5
variable {st n na : Nat} {g : YG} {pa : Nat → ZA} {pv : Nat → ZV} {S S' : SI} {F F' : SF}
theorem ends_noop (h : HIS n na S) (ha : S 47 0 = Int32.ofNat na) : endsS S = S := by
  have h14 := h.1.1
  have en : nt (S 47 0) = na := nt_of ha (by omega)
  funext s k
  unfold endsS
  by_cases c : s = 46 ∧ (k < nt (S 47 0) ∧ S 41 k = 1 ∧ S 46 k = -1 ∧ agrB S k = true)
  · obtain ⟨_, c1, c2, c3, c4⟩ := c
    rw [en] at c1
    rw [h.2.2 k c1 c2 c3] at c4
    exact absurd c4 (by decide)
  · rw [if_neg c]
/-- no more is agreed -/
theorem agrB_down {a : Nat} (hf : agrB S a = false) (e0 : S' 0 0 = S 0 0) (e42 : S' 42 a = S 42 a) (e43 : S' 43 a = S 43 a) (k : ∀ i, i < nt (S 0 0) → S' 11 i = 2 → S 11 i = 2 ∧ nt (S' 13 i) ≤ nt (S 13 i) ∧ ∀ x, x < nt (S' 13 i) → S' 15 (30 * i + x) = S 15 (30 * i + x) ∧ S' 16 (30 * i + x) = S 16 (30 * i + x)) : agrB S' a = false := by
  cases z : agrB S' a
  · rfl
  · rw [agrB_iff] at z
    obtain ⟨i, hi, x, hx, q1, q2, q3⟩ := z
    rw [e0] at hi
    obtain ⟨k1, k2, k3⟩ := k i hi q1
    obtain ⟨k4, k5⟩ := k3 x hx
    have : agrB S a = true := by
      rw [agrB_iff]
      refine ⟨i, hi, x, by omega, k1, ?_, ?_⟩
      · rw [← k4, ← e42]; exact q2
      · rw [← k5, ← e43]; exact q3
    rw [hf] at this
    exact absurd this (by decide)
theorem HIo_same (h : HIo S na) (e : ∀ s, 41 ≤ s → s ≤ 47 → S' s = S s) : HIo S' na := HIo_congr h e
theorem drop_ne {m s k : Nat} (h : s ≠ 31) : dropS S m s k = S s k := by
  unfold dropS
  rw [if_neg (fun w => h w.1)]
theorem crash_ne {m s k : Nat} (h5 : s ≠ 5) (h11 : s ≠ 11) (h23 : s ≠ 23) (h13 : s ≠ 13) (h31 : s ≠ 31) : crashS S m s k = S s k := by
  unfold crashS followS
  rw [drop_ne h31, u2_ne (Or.inl h13), u2_ne (Or.inl h23), u2_ne (Or.inl h11), u2_ne (Or.inl h5)]
theorem crash_o {m s k : Nat} (h31 : s ≠ 31) (hk : k ≠ m) : crashS S m s k = S s k := by
  unfold crashS followS
  rw [drop_ne h31, u2_ne (Or.inr hk), u2_ne (Or.inr hk), u2_ne (Or.inr hk), u2_ne (Or.inr hk)]
theorem s4_up (h : S 4 0 = Int32.ofNat st) : stepS S 4 0 = Int32.ofNat (st + 1) := by
  have e : stepS S 4 0 = S 4 0 + 1 := u2_eq
  rw [e, h, o_addn]
theorem st_ne {s k : Nat} (h : s ≠ 4) : stepS S s k = S s k := u2_ne (Or.inl h)
theorem inv_crash (hst : st < 1000) (h : INV st n na g pa pv S F) {m : Nat} (hm : m < n) : INV (st + 1) n na g pa pv (crashS (stepS S) m) F := by
  obtain ⟨⟨a1, a2, a3, s, a4, a5⟩, hM, hC, ⟨hR1, hR2, hR3, hR4, hR5, hR6⟩, hP, hZ, hE, ⟨hH1, hH2, hH3⟩, hX, ⟨f1, f2, f3, f4, f5, f6⟩⟩ := id h
  have hX1 := h.msx1
  have ne : ∀ s k, s ≠ 4 → s ≠ 5 → s ≠ 11 → s ≠ 23 → s ≠ 13 → s ≠ 31 → crashS (stepS S) m s k = S s k := fun s k q4 q5 q11 q23 q13 q31 => (crash_ne q5 q11 q23 q13 q31).trans (st_ne q4)
  have nf : ∀ s, s ≠ 4 → s ≠ 5 → s ≠ 11 → s ≠ 23 → s ≠ 13 → s ≠ 31 → crashS (stepS S) m s = S s := fun s q4 q5 q11 q23 q13 q31 => funext fun k => ne s k q4 q5 q11 q23 q13 q31
  have no : ∀ s k, s ≠ 4 → s ≠ 31 → k ≠ m → crashS (stepS S) m s k = S s k := fun s k q4 q31 qk => (crash_o q31 qk).trans (st_ne q4)
  have c5 : crashS (stepS S) m 5 m = 0 := by
    unfold crashS followS
    rw [drop_ne (by decide), u2_ne (by omega), u2_ne (by omega), u2_ne (by omega), u2_eq]
  have c11 : crashS (stepS S) m 11 m = 0 := by
    unfold crashS followS
    rw [drop_ne (by decide), u2_ne (by omega), u2_ne (by omega), u2_eq]
  have c23 : crashS (stepS S) m 23 m = 0 := by
    unfold crashS followS
    rw [drop_ne (by decide), u2_ne (by omega), u2_eq]
  have c13 : crashS (stepS S) m 13 m = 0 := by
    unfold crashS
    rw [drop_ne (by decide), u2_eq]
  have c31 : ∀ k, crashS (stepS S) m 31 k = if 4 * m ≤ k ∧ k < 4 * m + 4 then -1 else S 31 k := by
    intro k
    unfold crashS dropS
    by_cases c : 4 * m ≤ k ∧ k < 4 * m + 4
    · rw [if_pos ⟨rfl, c⟩, if_pos c]
    · rw [if_neg (fun w => c w.2), if_neg c]
      rfl
  have e1 : tmS (crashS (stepS S) m) = tmS S := by
    funext i
    unfold tmS
    rw [nf 9 (by decide) (by decide) (by decide) (by decide) (by decide) (by decide)]
  have e2 : lgS (crashS (stepS S) m) = lgS S := lgS_same (nf 12 (by decide) (by decide) (by decide) (by decide) (by decide) (by decide)) (nf 14 (by decide) (by decide) (by decide) (by decide) (by decide) (by decide)) (nf 15 (by decide) (by decide) (by decide) (by decide) (by decide) (by decide)) (nf 16 (by decide) (by decide) (by decide) (by decide) (by decide) (by decide)) (nf 17 (by decide) (by decide) (by decide) (by decide) (by decide) (by decide))
  have e3 : blS (crashS (stepS S) m) = blS S := by
    funext d a
    unfold blS
    rw [nf 27 (by decide) (by decide) (by decide) (by decide) (by decide) (by decide)]
  have s4 : crashS (stepS S) m 4 0 = Int32.ofNat (s + 1) := (crash_ne (by decide) (by decide) (by decide) (by decide) (by decide)).trans (s4_up a4)
  have eA : ∀ s, 41 ≤ s → s ≤ 47 → crashS (stepS S) m s = S s := fun s q1 q2 => nf s (by omega) (by omega) (by omega) (by omega) (by omega) (by omega)
  refine ⟨⟨?_, a2, ?_, s + 1, s4, by omega⟩, fun i hi => ?_, fun k hk => ?_, ⟨by rw [e1, e2]; exact hR1, ?_, fun i hi => ?_, fun i hi => ?_, fun i hi => ?_, hR6⟩, fun d hd => ?_, ?_, fun t x hx => hasA_congr (hE t x hx) eA, ⟨HIo_congr hH1 eA, fun a ha => ?_, fun a ha hw hz => ?_⟩, ?_, ⟨f1, f2, f3, f4, fun k hk => ?_, fun i hi => ?_⟩⟩
  · rw [ne 0 0 (by decide) (by decide) (by decide) (by decide) (by decide) (by decide)]; exact a1
  · rw [ne 47 0 (by decide) (by decide) (by decide) (by decide) (by decide) (by decide)]; exact a3
  · by_cases c : i = m
    · subst c
      obtain ⟨⟨l, b1, b2, _⟩, ⟨t, b3, b4⟩, _, _, _, _, b5⟩ := hM i hi
      unfold MAC
      rw [c5, c11, c23, c13, ne 12 i (by decide) (by decide) (by decide) (by decide) (by decide) (by decide), ne 9 i (by decide) (by decide) (by decide) (by decide) (by decide) (by decide), ne 18 i (by decide) (by decide) (by decide) (by decide) (by decide) (by decide)]
      exact ⟨⟨l, b1, b2, 0, rfl, by omega⟩, ⟨t, b3, by omega⟩, Or.inl rfl, Or.inl rfl, Or.inl rfl, fun z => absurd z (by decide), b5⟩
    · exact MAC_congr (hM i hi) (no 5 i (by decide) (by decide) c) (no 9 i (by decide) (by decide) c) (no 11 i (by decide) (by decide) c) (no 12 i (by decide) (by decide) c) (no 13 i (by decide) (by decide) c) (no 18 i (by decide) (by decide) c) (no 23 i (by decide) (by decide) c)
  · rw [ne 6 k (by decide) (by decide) (by decide) (by decide) (by decide) (by decide), ne 21 k (by decide) (by decide) (by decide) (by decide) (by decide) (by decide)]
    exact hC k hk
  · unfold RVO
    rw [e1, nf 10 (by decide) (by decide) (by decide) (by decide) (by decide) (by decide)]
    exact hR2
  · unfold RCA
    by_cases c : i = m
    · subst c; rw [c11]; exact fun z => absurd z (by decide)
    · rw [no 11 i (by decide) (by decide) c, e1, e2, nf 18 (by decide) (by decide) (by decide) (by decide) (by decide) (by decide)]
      exact hR3 i hi
  · unfold RLE
    by_cases c : i = m
    · subst c; rw [c11]; exact fun z => absurd z (by decide)
    · rw [no 11 i (by decide) (by decide) c, e1, e2, nf 19 (by decide) (by decide) (by decide) (by decide) (by decide) (by decide), nf 20 (by decide) (by decide) (by decide) (by decide) (by decide) (by decide), nf 21 (by decide) (by decide) (by decide) (by decide) (by decide) (by decide)]
      exact hR4 i hi
  · rw [e1, e2]
    by_cases c : i = m
    · subst c; rw [c13]; exact Or.inl rfl
    · rw [no 13 i (by decide) (by decide) c]; exact hR5 i hi
  · obtain ⟨p1, p2, p3, p4, p5, p6⟩ := hP d hd
    refine ⟨by rw [e3]; exact p1, fun a ha => ?_, ?_, fun b w hw => ?_, fun i hi => ?_, ?_⟩
    · rw [e3]; have := p2 a ha; omega
    · unfold PAC
      rw [nf 28 (by decide) (by decide) (by decide) (by decide) (by decide) (by decide), nf 29 (by decide) (by decide) (by decide) (by decide) (by decide) (by decide)]
      exact p3
    · have := p4 b w hw; exact ⟨this.1, by omega⟩
    · unfold PRO
      rw [c31]
      by_cases c : 4 * m ≤ 4 * i + d ∧ 4 * i + d < 4 * m + 4
      · rw [if_pos c]; exact fun z => absurd rfl z
      · rw [if_neg c, e3, nf 32 (by decide) (by decide) (by decide) (by decide) (by decide) (by decide), nf 33 (by decide) (by decide) (by decide) (by decide) (by decide) (by decide), nf 34 (by decide) (by decide) (by decide) (by decide) (by decide) (by decide), nf 35 (by decide) (by decide) (by decide) (by decide) (by decide) (by decide), nf 36 (by decide) (by decide) (by decide) (by decide) (by decide) (by decide)]
        exact p5 i hi
    · rw [nf 30 (by decide) (by decide) (by decide) (by decide) (by decide) (by decide)]
      exact p6
  · unfold CHZ
    rw [nf 33 (by decide) (by decide) (by decide) (by decide) (by decide) (by decide), nf 34 (by decide) (by decide) (by decide) (by decide) (by decide) (by decide), nf 35 (by decide) (by decide) (by decide) (by decide) (by decide) (by decide), nf 36 (by decide) (by decide) (by decide) (by decide) (by decide) (by decide)]
    exact hZ
  · rw [eA 45 (by omega) (by omega), s4, o_i _ (by omega)]
    have := hH2 a ha
    rw [a4, o_i _ (by omega)] at this
    omega
  · rw [eA 41 (by omega) (by omega)] at hw
    rw [eA 46 (by omega) (by omega)] at hz
    refine agrB_down (hH3 a ha hw hz) (ne 0 0 (by decide) (by decide) (by decide) (by decide) (by decide) (by decide)) (by rw [eA 42 (by omega) (by omega)]) (by rw [eA 43 (by omega) (by omega)]) (fun i _ hi2 => ?_)
    by_cases c : i = m
    · subst c; rw [c11] at hi2; exact absurd hi2 (by decide)
    · rw [no 11 i (by decide) (by decide) c] at hi2
      rw [no 13 i (by decide) (by decide) c]
      exact ⟨hi2, Nat.le_refl _, fun x _ => ⟨ne 15 _ (by decide) (by decide) (by decide) (by decide) (by decide) (by decide), ne 16 _ (by decide) (by decide) (by decide) (by decide) (by decide) (by decide)⟩⟩
  · rw [e1, e3]
    exact hX1.same (ne 39 0 (by decide) (by decide) (by decide) (by decide) (by decide) (by decide)) (nf 37 (by decide) (by decide) (by decide) (by decide) (by decide) (by decide)) rfl
  · rw [ne 21 k (by decide) (by decide) (by decide) (by decide) (by decide) (by decide)]
    exact f5 k hk
  · by_cases c : i = m
    · subst c; rw [c23]; exact fun z => absurd z (by decide)
    · rw [no 23 i (by decide) (by decide) c]; exact f6 i hi
theorem inv_rise (hst : st < 1000) (h : INV st n na g pa pv S F) {m : Nat} (hm : m < n) : INV (st + 1) n na g pa pv (riseS (stepS S) m) (riseF F m) := by
  obtain ⟨⟨a1, a2, a3, s, a4, a5⟩, hM, hC, hR, hP, hZ, hE, ⟨hH1, hH2, hH3⟩, hX, ⟨f1, f2, f3, f4, f5, f6⟩⟩ := id h
  have hX1 := h.msx1
  have ne : ∀ s k, s ≠ 4 → s ≠ 5 → s ≠ 25 → riseS (stepS S) m s k = S s k := by
    intro s k q4 q5 q25
    unfold riseS
    rw [u2_ne (Or.inl q25), u2_ne (Or.inl q5)]
    exact st_ne q4
  have nf : ∀ s, s ≠ 4 → s ≠ 5 → s ≠ 25 → riseS (stepS S) m s = S s := fun s q4 q5 q25 => funext fun k => ne s k q4 q5 q25
  have s4 : riseS (stepS S) m 4 0 = Int32.ofNat (s + 1) := by
    unfold riseS
    rw [u2_ne (by omega), u2_ne (by omega)]
    exact s4_up a4
  have eA : ∀ s, 41 ≤ s → s ≤ 47 → riseS (stepS S) m s = S s := fun s q1 q2 => nf s (by omega) (by omega) (by omega)
  have e1 : tmS (riseS (stepS S) m) = tmS S := by
    funext i
    unfold tmS
    rw [nf 9 (by decide) (by decide) (by decide)]
  have e3 : blS (riseS (stepS S) m) = blS S := by
    funext d a
    unfold blS
    rw [nf 27 (by decide) (by decide) (by decide)]
  refine ⟨⟨?_, a2, ?_, s + 1, s4, by omega⟩, fun i hi => ?_, fun k hk => ?_, RFT_congr hR (fun s q1 q2 => nf s (by omega) (by omega) (by omega)), fun d hd => PAX_congr (hP d hd) (fun s q1 q2 => nf s (by omega) (by omega) (by omega)), CHZ_congr hZ (fun s q1 q2 => nf s (by omega) (by omega) (by omega)), fun t x hx => hasA_congr (hE t x hx) eA, ⟨HIo_congr hH1 eA, fun a ha => ?_, fun a ha hw hz => ?_⟩, ?_, ⟨f1, f2, f3, f4, fun k hk => ?_, fun i hi => ?_⟩⟩
  · rw [ne 0 0 (by decide) (by decide) (by decide)]; exact a1
  · rw [ne 47 0 (by decide) (by decide) (by decide)]; exact a3
  · by_cases c : i = m
    · subst c
      obtain ⟨b0, ⟨t, b3, b4⟩, _, b1⟩ := hM i hi
      have c5 : riseS (stepS S) i 5 i = 1 := by
        unfold riseS
        rw [u2_ne (by omega), u2_eq]
      unfold MAC
      rw [c5, ne 9 i (by decide) (by decide) (by decide), ne 11 i (by decide) (by decide) (by decide), ne 12 i (by decide) (by decide) (by decide), ne 13 i (by decide) (by decide) (by decide), ne 18 i (by decide) (by decide) (by decide), ne 23 i (by decide) (by decide) (by decide)]
      exact ⟨b0, ⟨t, b3, by omega⟩, Or.inr rfl, b1⟩
    · have c5 : riseS (stepS S) m 5 i = S 5 i := by
        unfold riseS
        rw [u2_ne (by omega), u2_ne (Or.inr c)]
        exact st_ne (by decide)
      exact MAC_congr (hM i hi) c5 (ne 9 i (by decide) (by decide) (by decide)) (ne 11 i (by decide) (by decide) (by decide)) (ne 12 i (by decide) (by decide) (by decide)) (ne 13 i (by decide) (by decide) (by decide)) (ne 18 i (by decide) (by decide) (by decide)) (ne 23 i (by decide) (by decide) (by decide))
  · rw [ne 6 k (by decide) (by decide) (by decide), ne 21 k (by decide) (by decide) (by decide)]
    exact hC k hk
  · rw [eA 45 (by omega) (by omega), s4, o_i _ (by omega)]
    have := hH2 a ha
    rw [a4, o_i _ (by omega)] at this
    omega
  · rw [eA 41 (by omega) (by omega)] at hw
    rw [eA 46 (by omega) (by omega)] at hz
    rw [agrB_congr eA (ne 0 0 (by decide) (by decide) (by decide)) (nf 11 (by decide) (by decide) (by decide)) (nf 13 (by decide) (by decide) (by decide)) (nf 15 (by decide) (by decide) (by decide)) (nf 16 (by decide) (by decide) (by decide))]
    exact hH3 a ha hw hz
  · rw [e1, e3]
    exact hX1.same (ne 39 0 (by decide) (by decide) (by decide)) (nf 37 (by decide) (by decide) (by decide)) rfl
  · rw [ne 21 k (by decide) (by decide) (by decide)]
    exact f5 k hk
  · rw [ne 23 i (by decide) (by decide) (by decide)]
    exact f6 i hi
theorem inv_toggle (hst : st < 1000) (h : INV st n na g pa pv S F) {m : Nat} (hm : m < n) : INV (st + 1) n na g pa pv (toggleP (stepS S, F) m).1 (toggleP (stepS S, F) m).2 := by
  unfold toggleP
  split
  · exact inv_crash hst h hm
  · exact inv_rise hst h hm
theorem act_ne {w c s v an : Int32} {r k : Nat} (h1 : r < 41 ∨ 47 < r) : actS S w c s v an r k = S r k := by
  unfold actS
  rw [u2_ne (by omega), u2_ne (by omega), u2_ne (by omega), u2_ne (by omega), u2_ne (by omega), u2_ne (by omega), u2_ne (by omega)]
theorem act_old {w c s v an : Int32} {r k : Nat} (ha : nt (S 47 0) = na) (hr : r ≠ 47) (hk : k ≠ na) : actS S w c s v an r k = S r k := by
  unfold actS
  rw [ha, u2_ne (Or.inl hr), u2_ne (Or.inr hk), u2_ne (Or.inr hk), u2_ne (Or.inr hk), u2_ne (Or.inr hk), u2_ne (Or.inr hk), u2_ne (Or.inr hk)]
theorem act_new {w c s v an : Int32} (ha : nt (S 47 0) = na) : actS S w c s v an 41 na = w ∧ actS S w c s v an 42 na = c ∧ actS S w c s v an 43 na = s ∧ actS S w c s v an 44 na = v ∧ actS S w c s v an 45 na = S 4 0 ∧ actS S w c s v an 46 na = an := by
  unfold actS
  rw [ha]
  refine ⟨?_, ?_, ?_, ?_, ?_, ?_⟩
  · rw [u2_ne (by omega), u2_ne (by omega), u2_ne (by omega), u2_ne (by omega), u2_ne (by omega), u2_ne (by omega), u2_eq]
  · rw [u2_ne (by omega), u2_ne (by omega), u2_ne (by omega), u2_ne (by omega), u2_ne (by omega), u2_eq]
  · rw [u2_ne (by omega), u2_ne (by omega), u2_ne (by omega), u2_ne (by omega), u2_eq]
  · rw [u2_ne (by omega), u2_ne (by omega), u2_ne (by omega), u2_eq]
  · rw [u2_ne (by omega), u2_ne (by omega), u2_eq]
  · rw [u2_ne (by omega), u2_eq]
/-- one more act -/
theorem inv_act (hst : st < 1000) (h : INV st n na g pa pv S F) (h14 : na < 14) {w c s v an : Int32} (hw : (w = 0 ∧ an = stepS S 4 0) ∨ (w = 1 ∧ an = -1 ∧ ¬ hasA S na c s)) : INV (st + 1) n (na + 1) g pa pv (actS (stepS S) w c s v an) F ∧ (w = 1 → hasA (actS (stepS S) w c s v an) (na + 1) c s) := by
  obtain ⟨⟨a1, a2, a3, s0, a4, a5⟩, hM, hC, hR, hP, hZ, hE, ⟨⟨h1, h2, h3, h4, h5, h6⟩, hH2, hH3⟩, hX, ⟨f1, f2, f3, f4, f5, f6⟩⟩ := id h
  have hX1 := h.msx1
  have en : nt (stepS S 47 0) = na := nt_of a3 (by omega)
  have ne : ∀ r k, r ≠ 4 → (r < 41 ∨ 47 < r) → actS (stepS S) w c s v an r k = S r k := fun r k q4 q => (act_ne q).trans (st_ne q4)
  have nf : ∀ r, r ≠ 4 → (r < 41 ∨ 47 < r) → actS (stepS S) w c s v an r = S r := fun r q4 q => funext fun k => ne r k q4 q
  have old : ∀ r k, r ≠ 4 → r ≠ 47 → k < na → actS (stepS S) w c s v an r k = S r k := fun r k q4 q47 qk => (act_old en q47 (by omega)).trans (st_ne q4)
  have s4' : stepS S 4 0 = Int32.ofNat (s0 + 1) := s4_up a4
  have s4 : actS (stepS S) w c s v an 4 0 = Int32.ofNat (s0 + 1) := (act_ne (by omega)).trans s4'
  obtain ⟨n1, n2, n3, n4, n5, n6⟩ := act_new (S := stepS S) (w := w) (c := c) (s := s) (v := v) (an := an) en
  have e47 : actS (stepS S) w c s v an 47 0 = Int32.ofNat (na + 1) := by
    have : actS (stepS S) w c s v an 47 0 = S 47 0 + 1 := u2_eq
    rw [this, a3, o_addn]
  have hs0 := hH2
  rw [a4, o_i _ (by omega)] at hs0
  have e1 : tmS (actS (stepS S) w c s v an) = tmS S := by
    funext i
    unfold tmS
    rw [nf 9 (by decide) (by omega)]
  have e3 : blS (actS (stepS S) w c s v an) = blS S := by
    funext d a
    unfold blS
    rw [nf 27 (by decide) (by omega)]
  have agr : ∀ a, a < na → agrB S a = false → agrB (actS (stepS S) w c s v an) a = false := by
    intro a ha hf
    refine agrB_down hf (ne 0 0 (by decide) (by omega)) (old 42 a (by decide) (by decide) ha) (old 43 a (by decide) (by decide) ha) (fun i _ hi2 => ?_)
    rw [ne 11 i (by decide) (by omega)] at hi2
    rw [ne 13 i (by decide) (by omega)]
    exact ⟨hi2, Nat.le_refl _, fun x _ => ⟨ne 15 _ (by decide) (by omega), ne 16 _ (by decide) (by omega)⟩⟩
  have hasold : ∀ c' s', hasA S na c' s' → hasA (actS (stepS S) w c s v an) (na + 1) c' s' := by
    rintro c' s' ⟨a, q1, q2, q3, q4⟩
    exact ⟨a, by omega, (old 41 a (by decide) (by decide) q1).trans q2, (old 42 a (by decide) (by decide) q1).trans q3, (old 43 a (by decide) (by decide) q1).trans q4⟩
  have n45 : (actS (stepS S) w c s v an 45 na).toInt = s0 + 1 := by rw [n5, s4', o_i _ (by omega)]; rfl
  refine ⟨⟨⟨?_, a2, e47, s0 + 1, s4, by omega⟩, fun i hi => ?_, fun k hk => ?_, RFT_congr hR (fun r q1 q2 => nf r (by omega) (by omega)), fun d hd => PAX_congr (hP d hd) (fun r q1 q2 => nf r (by omega) (by omega)), CHZ_congr hZ (fun r q1 q2 => nf r (by omega) (by omega)), fun t x hx => hasold _ _ (hE t x hx), ⟨⟨by omega, fun a ha => ?_, fun a ha => ?_, fun a b hab hb => ?_, fun a ha hz => ?_, fun a ha hz => ?_⟩, fun a ha => ?_, fun a ha hw1 hz => ?_⟩, ?_, ⟨f1, f2, f3, f4, fun k hk => ?_, fun i hi => ?_⟩⟩, fun hw1 => ⟨na, by omega, n1.trans hw1, n2, n3⟩⟩
  · rw [ne 0 0 (by decide) (by omega)]; exact a1
  · exact MAC_congr (hM i hi) (ne 5 i (by decide) (by omega)) (ne 9 i (by decide) (by omega)) (ne 11 i (by decide) (by omega)) (ne 12 i (by decide) (by omega)) (ne 13 i (by decide) (by omega)) (ne 18 i (by decide) (by omega)) (ne 23 i (by decide) (by omega))
  · rw [ne 6 k (by decide) (by omega), ne 21 k (by decide) (by omega)]
    exact hC k hk
  · by_cases z : a = na
    · subst z
      rw [n1]
      rcases hw with ⟨q, _⟩ | ⟨q, _⟩
      · exact Or.inl q
      · exact Or.inr q
    · rw [old 41 a (by decide) (by decide) (by omega)]; exact h2 a (by omega)
  · by_cases z : a = na
    · subst z; rw [n45]; omega
    · rw [old 45 a (by decide) (by decide) (by omega)]; exact h3 a (by omega)
  · by_cases z : b = na
    · subst z
      rw [Int32.lt_iff_toInt_lt, n45, old 45 a (by decide) (by decide) (by omega)]
      have := hs0 a (by omega)
      omega
    · rw [old 45 a (by decide) (by decide) (by omega), old 45 b (by decide) (by decide) (by omega)]
      exact h4 a b hab (by omega)
  · by_cases z : a = na
    · subst z
      rw [n1] at hz
      rw [n6, n5]
      rcases hw with ⟨_, q⟩ | ⟨q, _⟩
      · exact q
      · rw [q] at hz; exact absurd hz (by decide)
    · rw [old 41 a (by decide) (by decide) (by omega)] at hz
      rw [old 45 a (by decide) (by decide) (by omega), old 46 a (by decide) (by decide) (by omega)]
      exact h5 a (by omega) hz
  · by_cases z : a = na
    · subst z
      rw [n1] at hz
      rw [n6]
      rcases hw with ⟨q, _⟩ | ⟨_, q, _⟩
      · rw [q] at hz; exact absurd hz (by decide)
      · exact Or.inl q
    · rw [old 41 a (by decide) (by decide) (by omega)] at hz
      rw [old 45 a (by decide) (by decide) (by omega), old 46 a (by decide) (by decide) (by omega)]
      exact h6 a (by omega) hz
  · rw [s4, o_i _ (by omega)]
    by_cases z : a = na
    · subst z; rw [n45]; omega
    · rw [old 45 a (by decide) (by decide) (by omega)]
      have := hs0 a (by omega)
      omega
  · by_cases z : a = na
    · subst z
      rw [n1] at hw1
      rcases hw with ⟨q, _⟩ | ⟨_, _, q⟩
      · rw [q] at hw1; exact absurd hw1 (by decide)
      · cases y : agrB (actS (stepS S) w c s v an) a
        · rfl
        · exfalso
          rw [agrB_iff] at y
          obtain ⟨i, hi, x, hx, q1, q2, q3⟩ := y
          have n5' : n ≤ 5 := by omega
          rw [ne 0 0 (by decide) (by omega), nt_of a1 (by omega)] at hi
          rw [ne 13 i (by decide) (by omega)] at hx
          have q2' : S 15 (30 * i + x) = c := by
            rw [← ne 15 (30 * i + x) (by decide) (by omega), ← n2]; exact q2
          have q3' : S 16 (30 * i + x) = s := by
            rw [← ne 16 (30 * i + x) (by decide) (by omega), ← n3]; exact q3
          have hlen := (hR.2.2.2.2.1 i hi).le
          rw [lgS_len] at hlen
          have hge := lgS_get (S := S) (i := i) (k := x) (by omega)
          obtain ⟨⟨d, _⟩, hd⟩ := hR.1.1.1 i hi x _ hge
          have hmem : enS S i x ∈ yL g (yT (enS S i x)) := by
            have : ((lgS S i).take (x + 1))[x]? = some (enS S i x) := by
              rw [List.getElem?_take, if_pos (by omega)]
              exact hge
            rw [hd] at this
            exact List.mem_of_mem_take (List.mem_of_getElem? this)
          have := hE _ _ hmem
          exact q (by
            have e15 : (enS S i x).2.1 = c := q2'
            have e16 : (enS S i x).2.2.1 = s := q3'
            rw [e15, e16] at this
            exact this)
    · rw [old 41 a (by decide) (by decide) (by omega)] at hw1
      rw [old 46 a (by decide) (by decide) (by omega)] at hz
      exact agr a (by omega) (hH3 a (by omega) hw1 hz)
  · rw [e1, e3]
    exact hX1.same (ne 39 0 (by decide) (by omega)) (nf 37 (by decide) (by omega)) rfl
  · rw [ne 21 k (by decide) (by omega)]
    exact f5 k hk
  · rw [ne 23 i (by decide) (by omega)]
    exact f6 i hi
theorem inv_read (hst : st < 1000) (h : INV st n na g pa pv S F) (h14 : na < 14) {m : Nat} : INV (st + 1) n (na + 1) g pa pv (readS (stepS S) m) F := (inv_act hst h h14 (Or.inl ⟨rfl, rfl⟩)).1
end CALLS5
