/-! ===== the invariant: stand, propose ===== -/
section CALLS7
variable {st n na : Nat} {g : YG} {pa : Nat → ZA} {pv : Nat → ZV} {S S' : SI} {F F' : SF}
theorem stand_ne {m r k : Nat} (h : (r ≠ 9 ∧ r ≠ 10 ∧ r ≠ 11 ∧ r ≠ 18 ∧ r ≠ 23) ∨ k ≠ m) : standS S m r k = S r k := by
  unfold standS
  rcases h with ⟨h1, h2, h3, h4, h5⟩ | h
  · rw [u2_ne (Or.inl h4), u2_ne (Or.inl h5), u2_ne (Or.inl h3), u2_ne (Or.inl h2), u2_ne (Or.inl h1)]
  · rw [u2_ne (Or.inr h), u2_ne (Or.inr h), u2_ne (Or.inr h), u2_ne (Or.inr h), u2_ne (Or.inr h)]
theorem bitI_small {m : Nat} (hm : m < 5) : ∃ g, bitI (Int32.ofNat m) = Int32.ofNat g ∧ g < 32 := by
  refine ⟨2 ^ m, o_shl m (by omega), ?_⟩
  have : 2 ^ m ≤ 2 ^ 4 := Nat.pow_le_pow_right (by omega) (by omega)
  omega
theorem inv_stand1 (hst : st < 1000) (h : INV st n na g pa pv S F) {m : Nat} (hm : m < n) : INV (st + 1) n na (yStand (tmS S) (lgS S) g m) pa pv (standP (stepS S, F) m n).1 (standP (stepS S, F) m n).2 := by
  obtain ⟨⟨a1, a2, a3, s0, a4, a5⟩, hM, hC, ⟨hR1, hR2, hR3, hR4, hR5, hR6, hR7, hR8⟩, hP, hZ, hE, ⟨hH1, hH2, hH3⟩, hX, ⟨f1, f2, f3, f4, f5, f6⟩⟩ := id h
  have n5 : n ≤ 5 := by omega
  obtain ⟨⟨l, hl, hl30, _⟩, ⟨t, ht, htst⟩, _⟩ := hM m (by omega)
  have etm : tmS S m = t := nt_of ht (by omega)
  have x := yX_stand (lg := lgS S) hR1 (c := m)
  have hI' := yI_stand hR1 hm
  rw [etm] at hI' x
  have ne0 : ∀ r k, r ≠ 4 → ((r ≠ 9 ∧ r ≠ 10 ∧ r ≠ 11 ∧ r ≠ 18 ∧ r ≠ 23) ∨ k ≠ m) → standS (stepS S) m r k = S r k := fun r k q4 q => (stand_ne q).trans (st_ne q4)
  have d9 : standS (stepS S) m 9 m = Int32.ofNat (t + 1) := by
    unfold standS
    rw [u2_ne (by omega), u2_ne (by omega), u2_ne (by omega), u2_ne (by omega), u2_eq, st_ne (by decide), ht, o_addn]
  have d10 : standS (stepS S) m 10 m = Int32.ofNat m := by
    unfold standS
    rw [u2_ne (by omega), u2_ne (by omega), u2_ne (by omega), u2_eq]
  have d11 : standS (stepS S) m 11 m = 1 := by
    unfold standS
    rw [u2_ne (by omega), u2_ne (by omega), u2_eq]
  have d23 : standS (stepS S) m 23 m = 0 := by
    unfold standS
    rw [u2_ne (by omega), u2_eq]
  have d18 : standS (stepS S) m 18 m = bitI (Int32.ofNat m) := by
    unfold standS
    rw [u2_eq]
  -- the row of messages aside
  have eT : ∀ r k, r ≠ 37 → r ≠ 39 → r ≠ 40 → (standP (stepS S, F) m n).1 r k = standS (stepS S) m r k := fun r k q1 q2 q3 => toAll_ne q1 q2 q3 _ _
  have eF : ∀ r k, r ≠ 38 → (standP (stepS S, F) m n).2 r k = F r k := fun r k q1 => toAll_neF q1 _ _
  have ne : ∀ r k, r ≠ 4 → r ≠ 37 → r ≠ 39 → r ≠ 40 → ((r ≠ 9 ∧ r ≠ 10 ∧ r ≠ 11 ∧ r ≠ 18 ∧ r ≠ 23) ∨ k ≠ m) → (standP (stepS S, F) m n).1 r k = S r k := fun r k q4 q1 q2 q3 q => (eT r k q1 q2 q3).trans (ne0 r k q4 q)
  have nf : ∀ r, r ≠ 4 → r ≠ 37 → r ≠ 39 → r ≠ 40 → (r ≠ 9 ∧ r ≠ 10 ∧ r ≠ 11 ∧ r ≠ 18 ∧ r ≠ 23) → (standP (stepS S, F) m n).1 r = S r := fun r q4 q1 q2 q3 q => funext fun k => ne r k q4 q1 q2 q3 (Or.inl q)
  have e1 : tmS (standP (stepS S, F) m n).1 = yup (tmS S) m (t + 1) := by
    funext i
    unfold tmS
    by_cases z : i = m
    · subst z; rw [yup_eq, eT 9 i (by decide) (by decide) (by decide), d9]; exact nt_of rfl (by omega)
    · rw [yup_ne z, ne 9 i (by decide) (by decide) (by decide) (by decide) (Or.inr z)]
  have e2 : lgS (standP (stepS S, F) m n).1 = lgS S := lgS_same (nf 12 (by decide) (by decide) (by decide) (by decide) (by decide)) (nf 14 (by decide) (by decide) (by decide) (by decide) (by decide)) (nf 15 (by decide) (by decide) (by decide) (by decide) (by decide)) (nf 16 (by decide) (by decide) (by decide) (by decide) (by decide)) (nf 17 (by decide) (by decide) (by decide) (by decide) (by decide))
  have e3 : blS (standP (stepS S, F) m n).1 = blS S := by
    funext d a
    unfold blS
    rw [nf 27 (by decide) (by decide) (by decide) (by decide) (by decide)]
  have eA : ∀ r, 41 ≤ r → r ≤ 47 → (standP (stepS S, F) m n).1 r = S r := fun r q1 q2 => nf r (by omega) (by omega) (by omega) (by omega) (by omega)
  have eP : ∀ r, 27 ≤ r → r ≤ 36 → (standP (stepS S, F) m n).1 r = S r := fun r q1 q2 => nf r (by omega) (by omega) (by omega) (by omega) (by omega)
  have s4 : (standP (stepS S, F) m n).1 4 0 = Int32.ofNat (s0 + 1) := by
    rw [eT 4 0 (by decide) (by decide) (by decide), stand_ne (by omega)]
    exact s4_up a4
  have tmi : ∀ i, i ≠ m → tmS (standP (stepS S, F) m n).1 i = tmS S i := fun i z => by rw [e1, yup_ne z]
  have tmm : tmS (standP (stepS S, F) m n).1 m = t + 1 := by rw [e1, yup_eq]
  have v0 : yV (yStand (tmS S) (lgS S) g m) m (t + 1) = some m := by rw [← etm]; exact u2_eq
  have c0 : yC (yStand (tmS S) (lgS S) g m) m (t + 1) = lgS S m := by rw [← etm]; exact u2_eq
  have vi : ∀ i u, i ≠ m → yV (yStand (tmS S) (lgS S) g m) i u = yV g i u := fun i u z => u2_ne (Or.inl z)
  have ci : ∀ i u, i ≠ m → yC (yStand (tmS S) (lgS S) g m) i u = yC g i u := fun i u z => u2_ne (Or.inl z)
  have okm : ∀ e, e ∈ lgS S m → e.1 = Int32.ofNat (yT e) := fun e he => (hR6 _ e (lg_in hR1 hm he)).1
  have hmx : MSX (MOK n (st + 1) (yup (tmS S) m (t + 1)) (yStand (tmS S) (lgS S) g m) (blS S) pa pv) (standS (stepS S) m) F := by
    have h1 : MSX (MOK n st (tmS S) g (blS S) pa pv) (standS (stepS S) m) F := hX.same (ne0 39 0 (by decide) (by omega)) (funext fun k => ne0 37 k (by decide) (by omega)) rfl
    exact h1.ghost (Nat.le_succ _) x (fun _ _ => zX.refl)
  have hall : MSX (MOK n (st + 1) (yup (tmS S) m (t + 1)) (yStand (tmS S) (lgS S) g m) (blS S) pa pv) (standP (stepS S, F) m n).1 (standP (stepS S, F) m n).2 := by
    refine MSX.all (P := (standS (stepS S) m, F)) MOK_cg hmx n (fun o ho hom => ?_)
    refine ⟨0, m, o, rfl, by omega, rfl, hm, rfl, ho, fun z => hom z.symm, PQ_c0.pf, fun _ => ⟨t + 1, d9, by rw [yup_eq]; exact Nat.le_refl _, by omega, fun _ => ⟨v0, ?_, ?_⟩, fun z => absurd z (by decide), fun z => absurd z (by decide), fun z => absurd z (by decide)⟩, fun z => absurd z (by decide)⟩
    · show standS (stepS S) m 12 m = _
      rw [c0, lgS_len, nt_of hl (by omega)]
      exact (ne0 12 m (by decide) (by omega)).trans hl
    · show tmAt (standS (stepS S) m) m (standS (stepS S) m 12 m) = _
      rw [c0, ne0 12 m (by decide) (by omega), ← tm_last hl hl30 okm]
      exact tm_congr (fun k => ne0 14 k (by decide) (by omega)) (ne0 12 m (by decide) (by omega)) _
  refine ⟨⟨?_, a2, ?_, s0 + 1, s4, by omega⟩, fun i hi => ?_, fun k hk => ?_, ⟨by rw [e1, e2]; exact hI', fun i hi => ?_, fun i hi => ?_, fun i hi => ?_, fun i hi => ?_, hR6, hR7, fun a u c hc => ?_⟩, fun d hd => PAX_congr (hP d hd) eP, CHZ_congr hZ eP, fun t2 e he => hasA_congr (hE t2 e he) eA, ⟨HIo_congr hH1 eA, fun a ha => ?_, fun a ha hw1 hz => ?_⟩, ?_, ?_⟩
  · rw [ne 0 0 (by decide) (by decide) (by decide) (by decide) (by omega)]; exact a1
  · rw [ne 47 0 (by decide) (by decide) (by decide) (by decide) (by omega)]; exact a3
  · by_cases z : i = m
    · subst z
      obtain ⟨b0, _, b1, _⟩ := hM i hi
      unfold MAC
      rw [eT 9 i (by decide) (by decide) (by decide), d9, eT 11 i (by decide) (by decide) (by decide), d11, eT 23 i (by decide) (by decide) (by decide), d23, eT 18 i (by decide) (by decide) (by decide), d18, ne 12 i (by decide) (by decide) (by decide) (by decide) (by omega), ne 13 i (by decide) (by decide) (by decide) (by decide) (by omega), ne 5 i (by decide) (by decide) (by decide) (by decide) (by omega)]
      exact ⟨b0, ⟨t + 1, rfl, by omega⟩, b1, Or.inr (Or.inl rfl), Or.inl rfl, fun z => absurd z (by decide), bitI_small hi⟩
    · exact MAC_congr (hM i hi) (ne 5 i (by decide) (by decide) (by decide) (by decide) (Or.inr z)) (ne 9 i (by decide) (by decide) (by decide) (by decide) (Or.inr z)) (ne 11 i (by decide) (by decide) (by decide) (by decide) (Or.inr z)) (ne 12 i (by decide) (by decide) (by decide) (by decide) (Or.inr z)) (ne 13 i (by decide) (by decide) (by decide) (by decide) (Or.inr z)) (ne 18 i (by decide) (by decide) (by decide) (by decide) (Or.inr z)) (ne 23 i (by decide) (by decide) (by decide) (by decide) (Or.inr z))
  · rw [ne 6 k (by decide) (by decide) (by decide) (by decide) (by omega), ne 21 k (by decide) (by decide) (by decide) (by decide) (by omega)]
    exact hC k hk
  · by_cases z : i = m
    · subst z
      rw [eT 10 i (by decide) (by decide) (by decide), d10, tmm]
      exact Or.inr ⟨i, rfl, hi, v0⟩
    · rw [ne 10 i (by decide) (by decide) (by decide) (by decide) (Or.inr z), tmi i z, vi i _ z]
      exact hR2 i hi
  · unfold RCA
    by_cases z : i = m
    · subst z
      intro _
      rw [tmm, e2, eT 18 i (by decide) (by decide) (by decide), d18]
      refine ⟨v0, c0.symm, fun hw => ?_, fun a ha hta => ?_⟩
      · have hw' : yW g (t + 1) = some i := hw
        have := (hR1.2.2.1 _ _ hw').2.1
        omega
      · rw [tb_bitI (by omega) (by omega)] at hta
        have e := of_decide_eq_true hta
        subst e
        exact ⟨hi, v0⟩
    · rw [ne 11 i (by decide) (by decide) (by decide) (by decide) (Or.inr z), tmi i z, e2, ne 18 i (by decide) (by decide) (by decide) (by decide) (Or.inr z), vi i _ z, ci i _ z]
      intro hi1
      obtain ⟨b1, b2, b3, b4⟩ := hR3 i hi hi1
      exact ⟨b1, b2, b3, fun a ha hta => ⟨(b4 a ha hta).1, x.2.2.2.2.2.1 _ _ _ (b4 a ha hta).2⟩⟩
  · unfold RLE
    by_cases z : i = m
    · subst z
      rw [eT 11 i (by decide) (by decide) (by decide), d11]
      exact fun w => absurd w (by decide)
    · rw [ne 11 i (by decide) (by decide) (by decide) (by decide) (Or.inr z), tmi i z, e2, nf 19 (by decide) (by decide) (by decide) (by decide) (by decide), nf 20 (by decide) (by decide) (by decide) (by decide) (by decide), nf 21 (by decide) (by decide) (by decide) (by decide) (by decide)]
      exact hR4 i hi
  · rw [ne 13 i (by decide) (by decide) (by decide) (by decide) (by omega), e2]
    refine (hR5 i hi).mono x ?_ (List.prefix_refl _)
    rw [e1]
    exact x.1 i
  · have hc' : u2 (yV g) m (tmS S m + 1) (some m) a u = some c := hc
    by_cases z : a = m ∧ u = tmS S m + 1
    · omega
    · rw [u2_ne (by omega)] at hc'; exact hR8 a u c hc'
  · rw [eA 45 (by omega) (by omega), s4, o_i _ (by omega)]
    have := hH2 a ha
    rw [a4, o_i _ (by omega)] at this
    omega
  · rw [eA 41 (by omega) (by omega)] at hw1
    rw [eA 46 (by omega) (by omega)] at hz
    refine agrB_down (hH3 a ha hw1 hz) (ne 0 0 (by decide) (by decide) (by decide) (by decide) (by omega)) (by rw [eA 42 (by omega) (by omega)]) (by rw [eA 43 (by omega) (by omega)]) (fun i _ hi2 => ?_)
    by_cases z : i = m
    · subst z
      rw [eT 11 i (by decide) (by decide) (by decide), d11] at hi2
      exact absurd hi2 (by decide)
    · rw [ne 11 i (by decide) (by decide) (by decide) (by decide) (Or.inr z)] at hi2
      rw [ne 13 i (by decide) (by decide) (by decide) (by decide) (by omega)]
      exact ⟨hi2, Nat.le_refl _, fun y _ => ⟨ne 15 _ (by decide) (by decide) (by decide) (by decide) (by omega), ne 16 _ (by decide) (by decide) (by decide) (by decide) (by omega)⟩⟩
  · rw [e1, e3]; exact hall
  · unfold FLO
    rw [eF 1 0 (by decide), eF 2 0 (by decide), eF 3 0 (by decide)]
    refine ⟨f1, f2, f3, fun i hi => ?_, fun k hk => ?_, fun i hi => ?_⟩
    · rw [eF 7 i (by decide), eF 8 i (by decide)]; exact f4 i hi
    · rw [eF 22 k (by decide), ne 21 k (by decide) (by decide) (by decide) (by decide) (by omega)]; exact f5 k hk
    · rw [eF 24 i (by decide)]
      by_cases z : i = m
      · subst z
        rw [eT 23 i (by decide) (by decide) (by decide), d23]
        exact fun w => absurd w (by decide)
      · rw [ne 23 i (by decide) (by decide) (by decide) (by decide) (Or.inr z)]; exact f6 i hi
/-- the next ballot -/
theorem nextB_of {m : Nat} {b : Int32} (hm : m < 5) (h0 : -1 ≤ b.toInt) (h1 : b.toInt ≤ 100000) : ∃ tg, nextB m b = Int32.ofNat tg ∧ b.toInt < tg ∧ tg % 8 = m ∧ (tg : Int) ≤ b.toInt + 8 + m := by
  unfold nextB
  by_cases c : b.toInt < m
  · rw [if_pos c]
    exact ⟨m, rfl, c, by omega, by omega⟩
  · rw [if_neg c]
    have ent : (nt b : Int) = b.toInt := Int.toNat_of_nonneg (by omega)
    exact ⟨_, rfl, by omega, by omega, by omega⟩
theorem prop_ne {m d r k : Nat} {v : Int32} (h : (r ≠ 27 ∧ (r < 31 ∨ 36 < r)) ∨ k ≠ 4 * m + d) : propS S m d v r k = S r k := by
  unfold propS
  rcases h with h | h
  · rw [u2_ne (by omega), u2_ne (by omega), u2_ne (by omega), u2_ne (by omega), u2_ne (by omega), u2_ne (by omega), u2_ne (by omega)]
  · rw [u2_ne (Or.inr h), u2_ne (Or.inr h), u2_ne (Or.inr h), u2_ne (Or.inr h), u2_ne (Or.inr h), u2_ne (Or.inr h), u2_ne (Or.inr h)]
theorem prop_new {m d : Nat} {v : Int32} : propS S m d v 27 (4 * m + d) = nextB m (S 27 (4 * m + d)) ∧ propS S m d v 31 (4 * m + d) = nextB m (S 27 (4 * m + d)) ∧ propS S m d v 32 (4 * m + d) = (if S 28 (4 * m + d) = -1 then v else S 29 (4 * m + d)) ∧ propS S m d v 34 (4 * m + d) = S 28 (4 * m + d) ∧ propS S m d v 33 (4 * m + d) = bitI (Int32.ofNat m) ∧ propS S m d v 35 (4 * m + d) = 0 ∧ propS S m d v 36 (4 * m + d) = 0 := by
  unfold propS
  refine ⟨?_, ?_, ?_, ?_, ?_, ?_, ?_⟩
  · rw [u2_ne (by omega), u2_ne (by omega), u2_ne (by omega), u2_ne (by omega), u2_ne (by omega), u2_ne (by omega), u2_eq]
  · rw [u2_ne (by omega), u2_ne (by omega), u2_ne (by omega), u2_ne (by omega), u2_ne (by omega), u2_eq]
  · rw [u2_ne (by omega), u2_ne (by omega), u2_ne (by omega), u2_ne (by omega), u2_eq]
  · rw [u2_ne (by omega), u2_ne (by omega), u2_ne (by omega), u2_eq]
  · rw [u2_ne (by omega), u2_ne (by omega), u2_eq]
  · rw [u2_ne (by omega), u2_eq]
  · rw [u2_eq]
end CALLS7
