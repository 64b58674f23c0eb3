/-! ===== the invariant: request, stand ===== -/
section CALLS6
variable {st n na : Nat} {g : YG} {pa : Nat → ZA} {pv : Nat → ZV} {S S' : SI} {F F' : SF}
theorem inv_step (hst : st < 1000) (h : INV st n na g pa pv S F) : INV (st + 1) n na g pa pv (stepS S) F := h.floats hst rfl id
theorem put_ne {m r k : Nat} {a c s v : Int32} (h12 : r ≠ 12) (h14 : r ≠ 14) (h15 : r ≠ 15) (h16 : r ≠ 16) (h17 : r ≠ 17) : putS S m a c s v r k = S r k := by
  unfold putS
  rw [u2_ne (Or.inl h12), u2_ne (Or.inl h17), u2_ne (Or.inl h16), u2_ne (Or.inl h15), u2_ne (Or.inl h14)]
/-- an entry of a log is one that a leader had -/
theorem lg_in (hI : yI n (tmS S) (lgS S) g) {i : Nat} (hi : i < n) {e : YE} (he : e ∈ lgS S i) : e ∈ yL g (yT e) := by
  obtain ⟨k, hk⟩ := List.mem_iff_getElem?.mp he
  obtain ⟨_, hd⟩ := hI.1.1 i hi k e hk
  have : ((lgS S i).take (k + 1))[k]? = some e := by
    rw [List.getElem?_take, if_pos (by omega)]
    exact hk
  rw [hd] at this
  exact List.mem_of_mem_take (List.mem_of_getElem? this)
theorem MSX.ghost {st' : Nat} {tm tm' : Nat → Nat} {g' : YG} {bl bl' : Nat → Nat → Int} {pa' : Nat → ZA} {pv' : Nat → ZV} (h : MSX (MOK n st tm g bl pa pv) S F) (hst : st ≤ st') (x : yX tm tm' g g') (z : ∀ d, d < 4 → zX (bl d) (bl' d) (pa d) (pa' d) (pv d) (pv' d)) : MSX (MOK n st' tm' g' bl' pa' pv') S F := h.mono (fun _ _ => MOK.mono hst x z)
theorem yI_lg {tm : Nat → Nat} {lg lg' : Nat → List YE} (H : yI n tm lg g) (e : ∀ i, i < n → lg' i = lg i) : yI n tm lg' g := by
  obtain ⟨⟨h1, h1', h1''⟩, ⟨h2, h2', h2''⟩, h3, h4, h5, h6, h8, h9, h10⟩ := H
  refine ⟨⟨fun a ha => by rw [e a ha]; exact h1 a ha, h1', h1''⟩, ⟨fun a x ha hx => h2 a x ha (by rw [e a ha] at hx; exact hx), h2', h2''⟩, h3, h4, fun t c hc ht => ?_, h6, fun a t k ha hk hK => ?_, h9, h10⟩
  · rw [e c (h3 t c hc).1]; exact h5 t c hc ht
  · rw [e a ha]; exact h8 a t k ha hk hK
theorem PAX_same {st' d : Nat} {ac : ZA} {v : ZV} (hst : st ≤ st') (h : PAX st n S d ac v) (e : ∀ s, 27 ≤ s → s ≤ 36 → S' s = S s) : PAX st' n S' d ac v := by
  obtain ⟨h1, h2, h3, h4, h5, h6⟩ := h
  have e1 : blS S' d = blS S d := by
    funext a
    unfold blS
    rw [e 27 (by omega) (by omega)]
  refine ⟨by rw [e1]; exact h1, fun a ha => ?_, ?_, fun b w hw => ?_, ?_, ?_⟩
  · rw [e1]
    have := h2 a ha
    omega
  · unfold PAC
    rw [e 28 (by omega) (by omega), e 29 (by omega) (by omega)]
    exact h3
  · have := h4 b w hw
    exact ⟨this.1, by omega⟩
  · unfold PRO
    rw [e1, e 31 (by omega) (by omega), e 32 (by omega) (by omega), e 33 (by omega) (by omega), e 34 (by omega) (by omega), e 35 (by omega) (by omega), e 36 (by omega) (by omega)]
    exact h5
  · rw [e 30 (by omega) (by omega)]
    exact h6
theorem inv_put (hst : st < 2000) (h : INV st n na g pa pv S F) {m l : Nat} (hm : m < n) (hlead : S 11 m = 2) (hl : S 12 m = Int32.ofNat l) (hl30 : l < 30) {c s v : Int32} (hA : hasA S na c s) : INV st n na (yPut g (tmS S m) m (S 9 m, c, s, v)) pa pv (putS S m (S 9 m) c s v) F := by
  obtain ⟨⟨a1, a2, a3, s0, a4, a5⟩, hM, hC, ⟨hR1, hR2, hR3, hR4, hR5, hR6, hR7, hR8⟩, hP, hZ, hE, ⟨hH1, hH2, hH3⟩, hX, ⟨f1, f2, f3, f4, f5, f6⟩⟩ := id h
  have n5 : n ≤ 5 := by omega
  obtain ⟨hw, hsup, hsame, hans⟩ := hR4 m hm hlead
  obtain ⟨_, ⟨t, ht, htst⟩, _⟩ := hM m (by omega)
  have etm : tmS S m = t := nt_of ht (by omega)
  have eT : yT (S 9 m, c, s, v) = tmS S m := rfl
  have x := yX_put (e := (S 9 m, c, s, v)) hR1 hw rfl
  have hI' := yI_put (e := (S 9 m, c, s, v)) hR1 hw eT
  have hlg : lgS S m = yL g (tmS S m) := hR1.2.2.2.2.1 _ _ hw rfl
  have ne : ∀ r k, r ≠ 12 → r ≠ 14 → r ≠ 15 → r ≠ 16 → r ≠ 17 → putS S m (S 9 m) c s v r k = S r k := fun r k q1 q2 q3 q4 q5 => put_ne q1 q2 q3 q4 q5
  have nf : ∀ r, r ≠ 12 → r ≠ 14 → r ≠ 15 → r ≠ 16 → r ≠ 17 → putS S m (S 9 m) c s v r = S r := fun r q1 q2 q3 q4 q5 => funext fun k => ne r k q1 q2 q3 q4 q5
  have e12 : putS S m (S 9 m) c s v 12 m = Int32.ofNat (l + 1) := by rw [putS_len, hl, o_addn]
  have ell : (lgS S m).length = l := by rw [lgS_len]; exact nt_of hl (by omega)
  have elg : ∀ i, i < 5 → lgS (putS S m (S 9 m) c s v) i = yup (lgS S) m (lgS S m ++ [(S 9 m, c, s, v)]) i := by
    intro i hi
    by_cases z : i = m
    · subst z; rw [yup_eq]; exact lgS_put hl hl30
    · rw [yup_ne z]
      obtain ⟨⟨li, b1, b2, _⟩, _⟩ := hM i hi
      exact lgS_put_ne hl hl30 z (by rw [nt_of b1 (by omega)]; exact b2)
  have e1 : tmS (putS S m (S 9 m) c s v) = tmS S := by
    funext i
    unfold tmS
    rw [nf 9 (by decide) (by decide) (by decide) (by decide) (by decide)]
  have e3 : blS (putS S m (S 9 m) c s v) = blS S := by
    funext d a
    unfold blS
    rw [nf 27 (by decide) (by decide) (by decide) (by decide) (by decide)]
  have eA : ∀ r, 41 ≤ r → r ≤ 47 → putS S m (S 9 m) c s v r = S r := fun r q1 q2 => nf r (by omega) (by omega) (by omega) (by omega) (by omega)
  have eP : ∀ r, 27 ≤ r → r ≤ 36 → putS S m (S 9 m) c s v r = S r := fun r q1 q2 => nf r (by omega) (by omega) (by omega) (by omega) (by omega)
  have n12 : ∀ i, i ≠ m → putS S m (S 9 m) c s v 12 i = S 12 i := fun i z => put_12 z
  have pre : ∀ i, i < 5 → lgS S i <+: lgS (putS S m (S 9 m) c s v) i := by
    intro i hi
    rw [elg i hi]
    by_cases z : i = m
    · subst z; rw [yup_eq]; exact List.prefix_append _ _
    · rw [yup_ne z]; exact List.prefix_refl _
  have LT : ∀ t1 e, e ∈ yL (yPut g (tmS S m) m (S 9 m, c, s, v)) t1 → e ∈ yL g t1 ∨ (t1 = tmS S m ∧ e = (S 9 m, c, s, v)) := by
    intro t1 e he
    have he' : e ∈ yup (yL g) (tmS S m) (yL g (tmS S m) ++ [(S 9 m, c, s, v)]) t1 := he
    by_cases z : t1 = tmS S m
    · subst z
      rw [yup_eq, List.mem_append] at he'
      rcases he' with q | q
      · exact Or.inl q
      · exact Or.inr ⟨rfl, by simpa using q⟩
    · rw [yup_ne z] at he'; exact Or.inl he'
  have t1 : 1 ≤ t := by
    have hv := (hR1.2.2.1 _ _ hw).2.2.1
    have := hR8 _ _ _ hv
    omega
  refine ⟨⟨?_, a2, ?_, s0, ?_, a5⟩, fun i hi => ?_, fun k hk => ?_, ⟨by rw [e1]; exact yI_lg hI' (fun i hi => elg i (by omega)), ?_, fun i hi => ?_, fun i hi => ?_, fun i hi => ?_, fun t2 e he => ?_, fun t2 => ?_, hR8⟩, fun d hd => ?_, CHZ_congr hZ eP, fun t2 e he => ?_, ⟨HIo_congr hH1 eA, fun a ha => ?_, fun a ha hw1 hz => ?_⟩, ?_, ⟨f1, f2, f3, f4, fun k hk => ?_, fun i hi => ?_⟩⟩
  · rw [ne 0 0 (by decide) (by decide) (by decide) (by decide) (by decide)]; exact a1
  · rw [ne 47 0 (by decide) (by decide) (by decide) (by decide) (by decide)]; exact a3
  · rw [ne 4 0 (by decide) (by decide) (by decide) (by decide) (by decide)]; exact a4
  · obtain ⟨⟨li, b1, b2, cm, b3, b4⟩, b5⟩ := hM i hi
    have r : (∃ l', putS S m (S 9 m) c s v 12 i = Int32.ofNat l' ∧ l' ≤ 30 ∧ ∃ c', S 13 i = Int32.ofNat c' ∧ c' ≤ l') := by
      by_cases z : i = m
      · subst z
        have : li = l := by
          have q1 := nt_of b1 (by omega)
          have q2 := nt_of hl (by omega)
          omega
        exact ⟨l + 1, e12, by omega, cm, b3, by omega⟩
      · exact ⟨li, (n12 i z).trans b1, b2, cm, b3, b4⟩
    unfold MAC
    rw [ne 13 i (by decide) (by decide) (by decide) (by decide) (by decide), ne 9 i (by decide) (by decide) (by decide) (by decide) (by decide), ne 5 i (by decide) (by decide) (by decide) (by decide) (by decide), ne 11 i (by decide) (by decide) (by decide) (by decide) (by decide), ne 23 i (by decide) (by decide) (by decide) (by decide) (by decide), ne 18 i (by decide) (by decide) (by decide) (by decide) (by decide)]
    exact ⟨r, b5⟩
  · rw [ne 6 k (by decide) (by decide) (by decide) (by decide) (by decide), ne 21 k (by decide) (by decide) (by decide) (by decide) (by decide)]
    exact hC k hk
  · unfold RVO
    rw [e1, nf 10 (by decide) (by decide) (by decide) (by decide) (by decide)]
    exact hR2
  · unfold RCA
    rw [e1, nf 11 (by decide) (by decide) (by decide) (by decide) (by decide), nf 18 (by decide) (by decide) (by decide) (by decide) (by decide), elg i (by omega)]
    intro hi1
    have z : i ≠ m := by intro z; subst z; rw [hlead] at hi1; exact absurd hi1 (by decide)
    rw [yup_ne z]
    exact hR3 i hi hi1
  · unfold RLE
    rw [e1, nf 11 (by decide) (by decide) (by decide) (by decide) (by decide), nf 19 (by decide) (by decide) (by decide) (by decide) (by decide), nf 20 (by decide) (by decide) (by decide) (by decide) (by decide), nf 21 (by decide) (by decide) (by decide) (by decide) (by decide)]
    intro hi2
    obtain ⟨b1, b2, b3, b4⟩ := hR4 i hi hi2
    refine ⟨b1, fun o ho hoi => ?_, fun o ho => ?_, b4⟩
    · obtain ⟨p, q1, q2⟩ := b2 o ho hoi
      exact ⟨p, q1, Nat.le_trans q2 (pre i (by omega)).length_le⟩
    · obtain ⟨q, q1, q2, q3, q4⟩ := b3 o ho
      exact ⟨q, q1, q2, q3, fun w1 w2 => Nat.le_trans (q4 w1 w2) (x.2.2.2.1 _ _)⟩
  · rw [e1, ne 13 i (by decide) (by decide) (by decide) (by decide) (by decide)]
    exact (hR5 i hi).mono x (Nat.le_refl _) (pre i (by omega))
  · rcases LT t2 e he with q | ⟨_, q⟩
    · exact hR6 t2 e q
    · subst q
      have eT' : yT (S 9 m, c, s, v) = t := etm
      refine ⟨?_, by omega⟩
      rw [eT']
      exact ht
  · show (yup (yL g) (tmS S m) (yL g (tmS S m) ++ [(S 9 m, c, s, v)]) t2).length ≤ 30
    by_cases z : t2 = tmS S m
    · subst z
      rw [yup_eq, List.length_append, ← hlg, ell]
      have z1 : [(S 9 m, c, s, v)].length = 1 := rfl
      omega
    · rw [yup_ne z]; exact hR7 t2
  · exact PAX_same (Nat.le_refl _) (hP d hd) eP
  · rcases LT t2 e he with q | ⟨_, q⟩
    · exact hasA_congr (hE t2 e q) eA
    · subst q; exact hasA_congr hA eA
  · rw [eA 45 (by omega) (by omega), ne 4 0 (by decide) (by decide) (by decide) (by decide) (by decide)]
    exact hH2 a ha
  · rw [eA 41 (by omega) (by omega)] at hw1
    rw [eA 46 (by omega) (by omega)] at hz
    refine agrB_down (hH3 a ha hw1 hz) (ne 0 0 (by decide) (by decide) (by decide) (by decide) (by decide)) (by rw [eA 42 (by omega) (by omega)]) (by rw [eA 43 (by omega) (by omega)]) (fun i hi hi2 => ?_)
    rw [nt_of a1 (by omega)] at hi
    rw [ne 11 i (by decide) (by decide) (by decide) (by decide) (by decide)] at hi2
    rw [ne 13 i (by decide) (by decide) (by decide) (by decide) (by decide)]
    have hle := (hR5 i hi).le
    obtain ⟨⟨li, b1, b2, _⟩, _⟩ := hM i (by omega)
    rw [lgS_len, nt_of b1 (by omega)] at hle
    refine ⟨hi2, Nat.le_refl _, fun y hy => ?_⟩
    by_cases z : i = m
    · subst z
      have : li = l := by
        have q1 := nt_of b1 (by omega)
        have q2 := nt_of hl (by omega)
        omega
      subst this
      unfold putS
      rw [nt_of hl (by omega), u2_ne (by omega), u2_ne (by omega), u2_ne (by omega), u2_ne (by omega), u2_ne (by omega), u2_ne (by omega), u2_ne (by omega), u2_ne (by omega), u2_ne (by omega), u2_ne (by omega)]
      exact ⟨rfl, rfl⟩
    · exact ⟨put_other hl hl30 z (by omega) (by omega), put_other hl hl30 z (by omega) (by omega)⟩
  · rw [e1, e3]
    have hX' : MSX (MOK n st (tmS S) g (blS S) pa pv) (putS S m (S 9 m) c s v) F := hX.same (ne 39 0 (by decide) (by decide) (by decide) (by decide) (by decide)) (nf 37 (by decide) (by decide) (by decide) (by decide) (by decide)) rfl
    exact hX'.ghost (Nat.le_refl _) x (fun _ _ => zX.refl)
  · rw [ne 21 k (by decide) (by decide) (by decide) (by decide) (by decide)]
    exact f5 k hk
  · rw [ne 23 i (by decide) (by decide) (by decide) (by decide) (by decide)]
    exact f6 i hi
theorem actOf_none {c s : Int32} : ∀ (m j : Nat), actOf S c s j m = none → ∀ a, j ≤ a → a < j + m → ¬ (S 41 a = 1 ∧ S 42 a = c ∧ S 43 a = s) := by
  intro m
  induction m with
  | zero => intro j _ a h1 h2; omega
  | succ m ih =>
    intro j h a h1 h2
    unfold actOf at h
    split at h
    · exact absurd h (by simp)
    · rename_i c1
      by_cases z : a = j
      · subst z; exact c1
      · exact ih (j + 1) h a (by omega) (by omega)
/-- a request that is taken -/
theorem inv_request (hst : st < 1000) (h : INV st n na g pa pv S F) {m : Nat} (hm : m < n) {c s v : Int32} (hfit : reqFit S c s v na) (hcan : reqCan S m c s na) : ∃ g' na', INV (st + 1) n na' g' pa pv (requestS (stepS S) m c s v) F := by
  have ha : stepS S 47 0 = Int32.ofNat na := h.1.2.2.1
  have h14 : na ≤ 14 := h.2.2.2.2.2.2.2.1.1.1
  have en : nt (stepS S 47 0) = na := nt_of ha (by omega)
  obtain ⟨_, hlead, hlen, hroom⟩ := hcan
  have eAct : actOf (stepS S) c s 0 na = actOf S c s 0 na := actOf_cg (S1 := stepS S) (S2 := S) rfl rfl rfl na 0
  have last : ∀ (T : SI) (na' : Nat), INV (st + 1) n na' g pa pv T F → T 11 m = 2 → T 12 m = S 12 m → hasA T na' c s → ∃ g' na'', INV (st + 1) n na'' g' pa pv (if outd T m c s (nt (T 12 m)) = true then T else putS T m (T 9 m) c s v) F := by
    intro T na' hT h11 h12 hA
    split
    · exact ⟨g, na', hT⟩
    · obtain ⟨⟨⟨l, b1, b2, _⟩, _⟩, _⟩ := And.intro (hT.2.1 m (by have := hT.1.2.1; omega)) trivial
      rw [← h12, b1, o_i _ (by omega)] at hlen
      exact ⟨_, na', inv_put (by omega) hT hm h11 b1 (by omega) hA⟩
  unfold requestS
  rw [en, eAct]
  cases hact : actOf S c s 0 na with
  | none =>
    have hno : ¬ hasA S na c s := by
      rintro ⟨a, q1, q2⟩
      exact actOf_none na 0 hact a (by omega) (by omega) q2
    have hr : na < 14 := hroom.resolve_left (by rw [hact]; simp)
    obtain ⟨i1, i2⟩ := inv_act (v := v) hst h hr (Or.inr ⟨rfl, rfl, hno⟩)
    exact last (actS (stepS S) 1 c s v (-1)) (na + 1) i1 ((act_ne (by omega)).trans hlead) ((act_ne (by omega)).trans rfl) (i2 rfl)
  | some a =>
    obtain ⟨q1, q2, q3, q4⟩ := actOf_lt na 0 a hact
    exact last (stepS S) na (inv_step hst h) hlead rfl ⟨a, by omega, q2, q3, q4⟩
end CALLS6
