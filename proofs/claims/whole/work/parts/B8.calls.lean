/-! ===== the invariant: decisions ===== -/
section CALLS8
variable {st n na : Nat} {g : YG} {pa pa' : Nat → ZA} {pv pv' : Nat → ZV} {S S' : SI} {F F' : SF} {m d : Nat}
/-- one machine's choice changes, and the row -/
theorem INV.pax (h : INV st n na g pa pv S F) (he : ∀ r k, r ≠ 37 → r ≠ 39 → r ≠ 40 → r < 48 → (r < 27 ∨ 36 < r ∨ k ≠ 4 * m + d) → S' r k = S r k) (hF : ∀ r k, r ≠ 38 → F' r k = F r k) (hd : d < 4) (hPd : PAX st n S' d (pa' d) (pv' d)) (sa : ∀ d', d' ≠ d → pa' d' = pa d' ∧ pv' d' = pv d') (hCH : CHZ S') (hX : MSX (MOK n st (tmS S) g (blS S') pa' pv') S' F') : INV st n na g pa' pv' S' F' := by
  obtain ⟨⟨a1, a2, a3, s0, a4, a5⟩, hM, hC, hR, hP, hZ, hE, ⟨hH1, hH2, hH3⟩, _, ⟨f1, f2, f3, f4, f5, f6⟩⟩ := h
  have nf : ∀ r, r ≠ 37 → r ≠ 39 → r ≠ 40 → r < 48 → (r < 27 ∨ 36 < r) → S' r = S r := fun r q1 q2 q3 q4 q5 => funext fun k => he r k q1 q2 q3 q4 (by omega)
  have eA : ∀ r, 41 ≤ r → r ≤ 47 → S' r = S r := fun r q1 q2 => nf r (by omega) (by omega) (by omega) (by omega) (by omega)
  have eR : ∀ r, r ≤ 26 → S' r = S r := fun r q1 => nf r (by omega) (by omega) (by omega) (by omega) (by omega)
  have e1 : tmS S' = tmS S := by
    funext i
    unfold tmS
    rw [eR 9 (by omega)]
  refine ⟨⟨?_, a2, ?_, s0, ?_, a5⟩, fun i hi => ?_, fun k hk => ?_, RFT_congr hR (fun r q1 q2 => eR r (by omega)), fun d' hd' => ?_, hCH, fun t x hx => hasA_congr (hE t x hx) eA, ⟨HIo_congr hH1 eA, fun a ha => ?_, fun a ha hw hz => ?_⟩, by rw [e1]; exact hX, ?_⟩
  · rw [eR 0 (by omega)]; exact a1
  · rw [eA 47 (by omega) (by omega)]; exact a3
  · rw [eR 4 (by omega)]; exact a4
  · have := hM i hi
    unfold MAC at this ⊢
    rw [eR 12 (by omega), eR 13 (by omega), eR 9 (by omega), eR 5 (by omega), eR 11 (by omega), eR 23 (by omega), eR 18 (by omega)]
    exact this
  · rw [eR 6 (by omega), eR 21 (by omega)]; exact hC k hk
  · by_cases c : d' = d
    · subst c; exact hPd
    · obtain ⟨q1, q2⟩ := sa d' c
      rw [q1, q2]
      have o : ∀ r a, 27 ≤ r → r ≤ 36 → S' r (4 * a + d') = S r (4 * a + d') := fun r a r1 r2 => he r _ (by omega) (by omega) (by omega) (by omega) (by omega)
      have eb : blS S' d' = blS S d' := by
        funext a
        unfold blS
        rw [o 27 a (by omega) (by omega)]
      obtain ⟨p1, p2, p3, p4, p5, p6⟩ := hP d' hd'
      refine ⟨by rw [eb]; exact p1, fun a ha => by rw [eb]; exact p2 a ha, fun a ha => ?_, p4, fun i hi => ?_, fun i hi => ?_⟩
      · unfold PAC
        rw [o 28 a (by omega) (by omega), o 29 a (by omega) (by omega)]
        exact p3 a ha
      · unfold PRO
        rw [eb, o 31 i (by omega) (by omega), o 32 i (by omega) (by omega), o 33 i (by omega) (by omega), o 34 i (by omega) (by omega), o 35 i (by omega) (by omega), o 36 i (by omega) (by omega)]
        exact p5 i hi
      · rw [o 30 i (by omega) (by omega)]; exact p6 i hi
  · rw [eA 45 (by omega) (by omega), eR 4 (by omega)]; exact hH2 a ha
  · rw [eA 41 (by omega) (by omega)] at hw
    rw [eA 46 (by omega) (by omega)] at hz
    rw [agrB_congr eA (by rw [eR 0 (by omega)]) (eR 11 (by omega)) (eR 13 (by omega)) (eR 15 (by omega)) (eR 16 (by omega))]
    exact hH3 a ha hw hz
  · unfold FLO
    rw [hF 1 0 (by omega), hF 2 0 (by omega), hF 3 0 (by omega), eR 21 (by omega), eR 23 (by omega)]
    refine ⟨f1, f2, f3, fun i hi => ?_, fun k hk => ?_, fun i hi => ?_⟩
    · rw [hF 7 i (by omega), hF 8 i (by omega)]; exact f4 i hi
    · rw [hF 22 k (by omega)]; exact f5 k hk
    · rw [hF 24 i (by omega)]; exact f6 i hi
/-- the greatest ballot promised by others stays -/
theorem bl_o {d' a : Nat} (he : ∀ r k, 27 ≤ r → r ≤ 36 → k ≠ 4 * m + d → S' r k = S r k) (hd : d < 4) (hd' : d' < 4) (h : d' ≠ d ∨ a ≠ m) : blS S' d' a = blS S d' a := by
  unfold blS
  rw [he 27 (4 * a + d') (by omega) (by omega) (by omega)]
theorem zX_bl {bl bl' : Nat → Int} {ac : ZA} {v : ZV} (e : ∀ a, bl a ≤ bl' a) : zX bl bl' ac ac v v := ⟨e, fun _ _ h => h, fun _ _ h => Or.inl h, fun _ _ h => h⟩
/-- the proposals of others stay -/
theorem PRO_o {i : Nat} {ac : ZA} {v : ZV} (h : PRO n S d i ac v) (e : ∀ r, 31 ≤ r → r ≤ 36 → S' r (4 * i + d) = S r (4 * i + d)) (hb : ∀ a, blS S d a ≤ blS S' d a) : PRO n S' d i ac v := by
  unfold PRO at h ⊢
  rw [e 31 (by omega) (by omega), e 32 (by omega) (by omega), e 33 (by omega) (by omega), e 34 (by omega) (by omega), e 35 (by omega) (by omega), e 36 (by omega) (by omega)]
  intro h31
  obtain ⟨b, q1, q2, q3, q4, q5⟩ := h h31
  refine ⟨b, q1, q2, q3, Int.le_trans q4 (hb i), ?_⟩
  rcases q5 with ⟨r1, r2, r3, r4⟩ | r
  · exact Or.inl ⟨r1, r2, fun a ha hta => ⟨(r3 a ha hta).1, Int.le_trans (r3 a ha hta).2.1 (hb a), (r3 a ha hta).2.2⟩, r4⟩
  · exact Or.inr r
theorem inv_propose (hst : st < 1000) (h : INV st n na g pa pv S F) (hm : m < n) (hd : d < 4) {v : Int32} (hv : 0 ≤ v.toInt ∧ v.toInt ≤ 999) : INV (st + 1) n na g pa pv (propP (stepS S, F) m n d v).1 (propP (stepS S, F) m n d v).2 := by
  have hs := inv_step hst h
  obtain ⟨⟨a1, a2, a3, _⟩, _, _, _, hP, hZ, _, _, hX, hL⟩ := id hs
  have n5 : n ≤ 5 := by omega
  obtain ⟨p1, p2, p3, p4, p5, p6⟩ := hP d hd
  have hP0 := h.2.2.2.2.1 d hd
  have hbm : -1 ≤ blS S d m ∧ blS S d m ≤ 8 * st + 8 := hP0.2.1 m hm
  have hbm' : -1 ≤ (S 27 (4 * m + d)).toInt ∧ (S 27 (4 * m + d)).toInt ≤ 8 * st + 8 := hbm
  obtain ⟨tg, t1, t2, t3, t4⟩ := nextB_of (m := m) (b := stepS S 27 (4 * m + d)) (by omega) hbm'.1 (by have := hbm'.2; show (S 27 (4 * m + d)).toInt ≤ 100000; omega)
  have t2' : (S 27 (4 * m + d)).toInt < tg := t2
  have t4' : (tg : Int) ≤ (S 27 (4 * m + d)).toInt + 8 + m := t4
  obtain ⟨n27, n31, n32, n34, n33, n35, n36⟩ := prop_new (S := stepS S) (m := m) (d := d) (v := v)
  rw [t1] at n27 n31
  have eT : ∀ r k, r ≠ 37 → r ≠ 39 → r ≠ 40 → (propP (stepS S, F) m n d v).1 r k = propS (stepS S) m d v r k := fun r k q1 q2 q3 => toAll_ne q1 q2 q3 _ _
  have eF : ∀ r k, r ≠ 38 → (propP (stepS S, F) m n d v).2 r k = F r k := fun r k q1 => toAll_neF q1 _ _
  have he : ∀ r k, r ≠ 37 → r ≠ 39 → r ≠ 40 → r < 48 → (r < 27 ∨ 36 < r ∨ k ≠ 4 * m + d) → (propP (stepS S, F) m n d v).1 r k = stepS S r k := fun r k q1 q2 q3 q4 q5 => (eT r k q1 q2 q3).trans (prop_ne (by omega))
  have hoth : ∀ r k, 27 ≤ r → r ≤ 36 → k ≠ 4 * m + d → (propP (stepS S, F) m n d v).1 r k = stepS S r k := fun r k r1 r2 r3 => he r k (by omega) (by omega) (by omega) (by omega) (Or.inr (Or.inr r3))
  have eb : blS (propP (stepS S, F) m n d v).1 d = yup (blS (stepS S) d) m (tg : Int) := by
    funext a
    by_cases z : a = m
    · subst z
      rw [yup_eq]
      unfold blS
      rw [eT 27 _ (by decide) (by decide) (by decide), n27, o_i _ (by omega)]
    · rw [yup_ne z]
      exact bl_o hoth hd hd (Or.inr z)
  have blm : blS (stepS S) d m < tg := t2
  have mono : ∀ a, blS (stepS S) d a ≤ blS (propP (stepS S, F) m n d v).1 d a := by
    intro a
    rw [eb]
    exact (zX_raise (ac := pa d) (pv := pv d) (Int.le_of_lt blm)).1 a
  have mono' : ∀ d', d' < 4 → ∀ a, blS (stepS S) d' a ≤ blS (propP (stepS S, F) m n d v).1 d' a := by
    intro d' hd' a
    by_cases z : d' = d
    · subst z; exact mono a
    · rw [bl_o hoth hd hd' (Or.inl z)]; exact Int.le_refl _
  have tgb : tg ≤ 8 * (st + 1) + 8 := by
    by_cases c : (S 27 (4 * m + d)).toInt < m
    · have : nextB m (S 27 (4 * m + d)) = Int32.ofNat m := if_pos c
      have t1' : nextB m (S 27 (4 * m + d)) = Int32.ofNat tg := t1
      rw [this] at t1'
      have := congrArg Int32.toInt t1'
      rw [o_i _ (by omega), o_i _ (by omega)] at this
      omega
    · have : nextB m (S 27 (4 * m + d)) = Int32.ofNat (8 * ((nt (S 27 (4 * m + d)) - m) / 8 + 1) + m) := if_neg c
      have t1' : nextB m (S 27 (4 * m + d)) = Int32.ofNat tg := t1
      rw [this] at t1'
      have ent : (nt (S 27 (4 * m + d)) : Int) = (S 27 (4 * m + d)).toInt := Int.toNat_of_nonneg (by omega)
      have := congrArg Int32.toInt t1'
      rw [o_i _ (by omega), o_i _ (by omega)] at this
      omega
  have pvn : pv d tg = none := by
    cases z : pv d tg with
    | none => rfl
    | some w =>
      have := (p1.2.1 tg w z).1
      rw [t3] at this
      omega
  have hPd : PAX (st + 1) n (propP (stepS S, F) m n d v).1 d (pa d) (pv d) := by
    refine ⟨by rw [eb]; exact zI_raise p1 (Int.le_of_lt blm), fun a ha => ?_, fun a ha => ?_, p4, fun i hi => ?_, fun i hi => ?_⟩
    · rw [eb]
      by_cases z : a = m
      · subst z; rw [yup_eq]; omega
      · rw [yup_ne z]; exact p2 a ha
    · have e28 : ∀ a, (propP (stepS S, F) m n d v).1 28 (4 * a + d) = stepS S 28 (4 * a + d) := fun a => (eT 28 _ (by decide) (by decide) (by decide)).trans (prop_ne (by omega))
      have e29 : ∀ a, (propP (stepS S, F) m n d v).1 29 (4 * a + d) = stepS S 29 (4 * a + d) := fun a => (eT 29 _ (by decide) (by decide) (by decide)).trans (prop_ne (by omega))
      unfold PAC
      rw [e28, e29]
      exact p3 a ha
    · by_cases z : i = m
      · subst z
        unfold PRO
        rw [eT 31 _ (by decide) (by decide) (by decide), eT 32 _ (by decide) (by decide) (by decide), eT 33 _ (by decide) (by decide) (by decide), eT 34 _ (by decide) (by decide) (by decide), eT 35 _ (by decide) (by decide) (by decide), n31, n32, n33, n34, n35]
        intro _
        refine ⟨tg, rfl, by omega, t3, by rw [eb, yup_eq]; exact Int.le_refl _, Or.inl ⟨rfl, pvn, fun a ha hta => ?_, ?_, ?_⟩⟩
        · rw [tb_bitI (by omega) (by omega)] at hta
          have e := of_decide_eq_true hta
          subst e
          refine ⟨hi, by rw [eb, yup_eq]; exact Int.le_refl _, fun b' hb' hb2 => ?_⟩
          rcases p3 i hi with ⟨_, w2⟩ | ⟨x, w1, w2, _, _, w3⟩
          · exact w2 b'
          · rw [w1, o_i _ (by omega)] at hb2
            exact w3 b' (by omega)
        · rcases p3 i hi with ⟨w1, _⟩ | ⟨x, w1, w2, w3, w4, _⟩
          · exact Or.inl w1
          · refine Or.inr ⟨x, w1, ?_, ?_⟩
            · have := (p1.1 i x w3).2.1
              omega
            · have nz : ¬ stepS S 28 (4 * i + d) = -1 := by
                rw [w1, o_ne1 _ (by omega)]; exact id
              rw [if_neg nz]; exact w4
        · rcases p3 i hi with ⟨w1, _⟩ | ⟨x, w1, w2, w3, w4, _⟩
          · rw [if_pos w1]
            intro e
            rw [e] at hv
            exact absurd hv.1 (by decide)
          · have nz : ¬ stepS S 28 (4 * i + d) = -1 := by
              rw [w1, o_ne1 _ (by omega)]; exact id
            rw [if_neg nz]
            exact (p4 x _ w4).1
      · exact PRO_o (p5 i hi) (fun r r1 r2 => hoth r _ (by omega) r2 (by omega)) mono
    · have e30 : (propP (stepS S, F) m n d v).1 30 (4 * i + d) = stepS S 30 (4 * i + d) := (eT 30 _ (by decide) (by decide) (by decide)).trans (prop_ne (by omega))
      rw [e30]
      exact p6 i hi
  have hCH : CHZ (propP (stepS S, F) m n d v).1 := by
    intro k hk
    by_cases z : k = 4 * m + d
    · subst z
      rw [eT 35 _ (by decide) (by decide) (by decide), eT 33 _ (by decide) (by decide) (by decide), eT 36 _ (by decide) (by decide) (by decide), eT 34 _ (by decide) (by decide) (by decide), n35, n33, n36, n34]
      refine ⟨Or.inl rfl, bitI_small (by omega), ⟨0, rfl, by omega⟩, ?_⟩
      rcases p3 m hm with ⟨w1, _⟩ | ⟨x, w1, w2, _⟩
      · rw [w1]; decide
      · rw [w1, o_i _ (by omega)]; omega
    · rw [hoth 35 k (by omega) (by omega) z, hoth 33 k (by omega) (by omega) z, hoth 36 k (by omega) (by omega) z, hoth 34 k (by omega) (by omega) z]
      exact hZ k hk
  have hmx : MSX (MOK n (st + 1) (tmS S) g (blS (propP (stepS S, F) m n d v).1) pa pv) (propS (stepS S) m d v) F := by
    have h1 : MSX (MOK n (st + 1) (tmS (stepS S)) g (blS (stepS S)) pa pv) (propS (stepS S) m d v) F := hX.same (prop_ne (by omega)) (funext fun k => prop_ne (by omega)) rfl
    exact h1.ghost (Nat.le_refl _) yX.refl (fun d' hd' => zX_bl (mono' d' hd'))
  have hall : MSX (MOK n (st + 1) (tmS S) g (blS (propP (stepS S, F) m n d v).1) pa pv) (propP (stepS S, F) m n d v).1 (propP (stepS S, F) m n d v).2 := by
    refine MSX.all (P := (propS (stepS S) m d v, F)) MOK_cg hmx n (fun o ho hom => ?_)
    refine ⟨4, m, o, rfl, by omega, rfl, hm, rfl, ho, fun z => hom z.symm, PQ_c0.pf, fun z => absurd z (by decide), fun _ => ⟨d, tg, hd, rfl, t1, tgb, fun z => absurd z (by decide), fun z => absurd z (by decide), fun z => absurd z (by decide)⟩⟩
  exact hs.pax (m := m) (d := d) he eF hd hPd (fun _ _ => ⟨rfl, rfl⟩) hCH hall
end CALLS8
