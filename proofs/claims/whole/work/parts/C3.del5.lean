/-! ===== the invariant in a delivery: decisions ===== -/
section DEL5
variable {st n na : Nat} {g : YG} {pa pa' : Nat → ZA} {pv pv' : Nat → ZV} {S S' : SI} {F F' : SF} {m d : Nat} {w : RW} {c : UInt32} {ac ac' : ZA} {v v' : ZV}
theorem PRO_x {i : Nat} (h : PRO n S d i ac v) (e : ∀ r, 31 ≤ r → r ≤ 36 → S' r (4 * i + d) = S r (4 * i + d)) (z : zX (blS S d) (blS S' d) ac ac' v v') (hn : ∀ b, b % 8 = i → v b = none → v' b = none) : PRO n S' d i ac' v' := by
  unfold PRO at h ⊢
  rw [e 31 (by omega) (by omega), e 32 (by omega) (by omega), e 33 (by omega) (by omega), e 34 (by omega) (by omega), e 35 (by omega) (by omega), e 36 (by omega) (by omega)]
  intro h31
  obtain ⟨b, q1, q2, q3, q4, q5⟩ := h h31
  refine ⟨b, q1, q2, q3, Int.le_trans q4 (z.1 i), ?_⟩
  rcases q5 with ⟨r1, r2, r3, r4, r5⟩ | ⟨r1, r2, r3⟩
  · refine Or.inl ⟨r1, hn b q3 r2, fun a ha hta => ?_, ?_, r5⟩
    · obtain ⟨s1, s2, s3⟩ := r3 a ha hta
      refine ⟨s1, Int.le_trans s2 (z.1 a), fun b' hb' hbb hac => ?_⟩
      rcases z.2.2.1 a b' hac with u | u
      · exact s3 b' hb' hbb u
      · omega
    · rcases r4 with r4 | ⟨x, x1, x2, x3⟩
      · exact Or.inl r4
      · exact Or.inr ⟨x, x1, x2, z.2.2.2 _ _ x3⟩
  · exact Or.inr ⟨r1, z.2.2.2 _ _ r2, fun a ha hta => ⟨(r3 a ha hta).1, z.2.1 _ _ (r3 a ha hta).2⟩⟩
theorem PAC_x {a : Nat} (h : PAC S d a ac v) (e28 : S' 28 (4 * a + d) = S 28 (4 * a + d)) (e29 : S' 29 (4 * a + d) = S 29 (4 * a + d)) (hac : ∀ b, ac' a b ↔ ac a b) (hv : ∀ b x, v b = some x → v' b = some x) : PAC S' d a ac' v' := by
  unfold PAC at h ⊢
  rw [e28, e29]
  rcases h with ⟨h1, h2⟩ | ⟨b, h1, h2, h3, h4, h5⟩
  · exact Or.inl ⟨h1, fun b hb => h2 b ((hac b).mp hb)⟩
  · exact Or.inr ⟨b, h1, h2, (hac b).mpr h3, hv _ _ h4, fun b' hb' hb2 => h5 b' hb' ((hac b').mp hb2)⟩
/-- what a message of ballots says -/
theorem MOK.bal (hK : MOK n st (tmS S) g (blS S) pa pv w c) (hm : m < n) (hn5 : n ≤ 5) (hw2 : w 2 = Int32.ofNat m) {kd : Nat} (hw0 : w 0 = Int32.ofNat kd) (hk4 : 4 ≤ kd) (hk7 : kd ≤ 7) : ∃ f d b, f < n ∧ f ≠ m ∧ w 1 = Int32.ofNat f ∧ d < 4 ∧ w 6 = Int32.ofNat d ∧ w 3 = Int32.ofNat b ∧ b ≤ 8 * st + 8 ∧
    (kd = 5 → (b : Int) ≤ blS S d f ∧ ((w 4 = -1 ∧ ∀ b', b' < b → ¬ pa d f b') ∨ ∃ x, w 4 = Int32.ofNat x ∧ x < b ∧ pv d x = some (w 5) ∧ ∀ b', b' < b → x < b' → ¬ pa d f b')) ∧
    (kd = 6 → pv d b = some (w 9)) ∧ (kd = 7 → pa d f b) := by
  obtain ⟨kd', f, m', k0, k7, k1, kf, k2, km, kfm, kc, _, kB⟩ := hK
  have e1 : kd' = kd := o_inj (k0.symm.trans hw0) (by omega) (by omega)
  subst e1
  have e2 : m' = m := o_inj (k2.symm.trans hw2) (by omega) (by omega)
  subst e2
  obtain ⟨d, b, b1, b2, b3, b4, b5, b6, b7⟩ := kB hk4
  exact ⟨f, d, b, kf, kfm, k1, b1, b2, b3, b4, b5, b6, b7⟩
theorem inv_prepared (hst : st < 2000) (h : INV st n na g pa pv S F) (hm : m < n) (hw2 : w 2 = Int32.ofNat m) (hw0 : w 0 = 4) (hK : MOK n st (tmS S) g (blS S) pa pv w c) : INV st n na g pa pv (preparedP (S, F) m w).1 (preparedP (S, F) m w).2 := by
  obtain ⟨⟨a1, a2, a3, _⟩, _, _, _, hP, hZ, _, _, hX, hL⟩ := id h
  have n5 : n ≤ 5 := by omega
  obtain ⟨f, d, b, kf, kfm, k1, hd, k6, k3, kb, _⟩ := hK.bal hm n5 hw2 (kd := 4) hw0 (by omega) (by omega)
  have en6 : nt (w 6) = d := nt_of k6 (by omega)
  unfold preparedP
  dsimp only
  rw [en6]
  split
  · rename_i cl
    obtain ⟨p1, p2, p3, p4, p5, p6⟩ := hP d hd
    have hlt : blS S d m < b := by
      rw [k3, Int32.lt_iff_toInt_lt, o_i _ (by omega)] at cl
      exact cl
    have n27 : ∀ r k, r ≠ 27 ∨ k ≠ 4 * m + d → u2 S 27 (4 * m + d) (w 3) r k = S r k := fun r k hk => u2_ne hk
    have he : ∀ (ww : RW) r k, r ≠ 37 → r ≠ 39 → r ≠ 40 → r < 48 → (r < 27 ∨ 36 < r ∨ k ≠ 4 * m + d) → (snd (u2 S 27 (4 * m + d) (w 3), F) ww FP.fconst0).1 r k = S r k := fun ww r k q1 q2 q3 q4 q5 => (snd_ne q1 q2 q3 k).trans (n27 r k (by omega))
    have hs : ∀ (ww : RW) r k, r ≠ 37 → r ≠ 39 → r ≠ 40 → (snd (u2 S 27 (4 * m + d) (w 3), F) ww FP.fconst0).1 r k = u2 S 27 (4 * m + d) (w 3) r k := fun ww r k q1 q2 q3 => snd_ne q1 q2 q3 k
    have hsF : ∀ (ww : RW) r k, r ≠ 38 → (snd (u2 S 27 (4 * m + d) (w 3), F) ww FP.fconst0).2 r k = F r k := fun ww r k q => snd_neF q k
    have hmsx : ∀ ww, (∀ w c, MOK n st (tmS S) g (blS S) pa pv w c → MOK n st (tmS S) g (blS (snd (u2 S 27 (4 * m + d) (w 3), F) ww FP.fconst0).1) pa pv w c) → True := fun _ _ => trivial
    generalize hww : (wu (wu (wu (w4 5 (Int32.ofNat m) (w 1) (w 3)) 4 (S 28 (4 * m + d))) 5 (S 29 (4 * m + d))) 6 (w 6)) = ww
    have eb : blS (snd (u2 S 27 (4 * m + d) (w 3), F) ww FP.fconst0).1 d = yup (blS S d) m (b : Int) := by
      funext a
      unfold blS
      rw [hs ww 27 _ (by decide) (by decide) (by decide)]
      by_cases z : a = m
      · subst z; rw [yup_eq, u2_eq, k3, o_i _ (by omega)]
      · rw [yup_ne z, n27 27 _ (by omega)]
    have ebo : ∀ d', d' ≠ d → d' < 4 → blS (snd (u2 S 27 (4 * m + d) (w 3), F) ww FP.fconst0).1 d' = blS S d' := by
      intro d' hne hd'
      funext a
      unfold blS
      rw [hs ww 27 _ (by decide) (by decide) (by decide), n27 27 _ (by omega)]
    have zx : zX (blS S d) (blS (snd (u2 S 27 (4 * m + d) (w 3), F) ww FP.fconst0).1 d) (pa d) (pa d) (pv d) (pv d) := by
      rw [eb]
      exact zX_raise (Int.le_of_lt hlt)
    have zxa : ∀ d', d' < 4 → zX (blS S d') (blS (snd (u2 S 27 (4 * m + d) (w 3), F) ww FP.fconst0).1 d') (pa d') (pa d') (pv d') (pv d') := by
      intro d' hd'
      by_cases z : d' = d
      · subst z; exact zx
      · rw [ebo d' z hd']; exact zX.refl
    have hX1 : MSX (MOK n st (tmS S) g (blS (snd (u2 S 27 (4 * m + d) (w 3), F) ww FP.fconst0).1) pa pv) (u2 S 27 (4 * m + d) (w 3)) F := by
      have h1 : MSX (MOK n st (tmS S) g (blS S) pa pv) (u2 S 27 (4 * m + d) (w 3)) F := hX.same (n27 39 0 (by omega)) (funext fun k => n27 37 k (by omega)) rfl
      exact h1.ghost (Nat.le_refl _) yX.refl zxa
    have hX2 := MSX.snd (P := (u2 S 27 (4 * m + d) (w 3), F)) (w := ww) (c := FP.fconst0) MOK_cg hX1 (by
      subst hww
      refine ⟨5, m, f, rfl, by omega, rfl, hm, k1, kf, fun z => kfm z.symm, PQ_c0.pf, fun z => absurd z (by decide), fun _ => ⟨d, b, hd, k6, k3, kb, fun _ => ⟨?_, ?_⟩, fun z => absurd z (by decide), fun z => absurd z (by decide)⟩⟩
      · rw [eb, yup_eq]; exact Int.le_refl _
      · rcases p3 m hm with ⟨y1, y2⟩ | ⟨x, y1, y2, y3, y4, y5⟩
        · exact Or.inl ⟨y1, fun b' _ => y2 b'⟩
        · refine Or.inr ⟨x, y1, ?_, y4, fun b' _ hxb => y5 b' hxb⟩
          have := (p1.1 m x y3).2.1
          omega)
    refine h.pax (m := m) (d := d) (he ww) (hsF ww) hd ⟨?_, fun a ha => ?_, fun a ha => ?_, p4, fun i hi => ?_, fun i hi => ?_⟩ (fun _ _ => ⟨rfl, rfl⟩) ?_ hX2
    · rw [eb]; exact zI_raise p1 (Int.le_of_lt hlt)
    · rw [eb]
      by_cases z : a = m
      · subst z; rw [yup_eq]; omega
      · rw [yup_ne z]; exact p2 a ha
    · exact PAC_x (p3 a ha) ((hs ww 28 _ (by decide) (by decide) (by decide)).trans (n27 28 _ (by omega))) ((hs ww 29 _ (by decide) (by decide) (by decide)).trans (n27 29 _ (by omega))) (fun _ => Iff.rfl) (fun _ _ hx => hx)
    · exact PRO_x (p5 i hi) (fun r r1 r2 => (hs ww r _ (by omega) (by omega) (by omega)).trans (n27 r _ (by omega))) zx (fun _ _ hx => hx)
    · rw [hs ww 30 _ (by decide) (by decide) (by decide), n27 30 _ (by omega)]; exact p6 i hi
    · intro k hk
      rw [hs ww 35 _ (by decide) (by decide) (by decide), hs ww 33 _ (by decide) (by decide) (by decide), hs ww 36 _ (by decide) (by decide) (by decide), hs ww 34 _ (by decide) (by decide) (by decide), n27 35 _ (by omega), n27 33 _ (by omega), n27 36 _ (by omega), n27 34 _ (by omega)]
      exact hZ k hk
  · exact h
theorem inv_accepted (hst : st < 2000) (h : INV st n na g pa pv S F) (hm : m < n) (hw2 : w 2 = Int32.ofNat m) (hw0 : w 0 = 6) (hK : MOK n st (tmS S) g (blS S) pa pv w c) : ∃ pa', INV st n na g pa' pv (acceptedP (S, F) m w).1 (acceptedP (S, F) m w).2 := by
  obtain ⟨⟨a1, a2, a3, _⟩, _, _, _, hP, hZ, _, _, hX, hL⟩ := id h
  have n5 : n ≤ 5 := by omega
  obtain ⟨f, d, b, kf, kfm, k1, hd, k6, k3, kb, _, k66, _⟩ := hK.bal hm n5 hw2 (kd := 6) hw0 (by omega) (by omega)
  have hpv := k66 rfl
  have en6 : nt (w 6) = d := nt_of k6 (by omega)
  unfold acceptedP
  dsimp only
  rw [en6]
  split
  · exact ⟨pa, h⟩
  · rename_i cl
    obtain ⟨p1, p2, p3, p4, p5, p6⟩ := hP d hd
    have hle : blS S d m ≤ b := by
      rw [k3, Int32.lt_iff_toInt_lt, o_i _ (by omega)] at cl
      unfold blS
      omega
    generalize hS1 : u2 (u2 (u2 S 27 (4 * m + d) (w 3)) 28 (4 * m + d) (w 3)) 29 (4 * m + d) (w 9) = S1
    have n1 : ∀ r k, (r ≠ 27 ∧ r ≠ 28 ∧ r ≠ 29) ∨ k ≠ 4 * m + d → S1 r k = S r k := by
      intro r k hk
      rw [← hS1]
      rcases hk with ⟨q1, q2, q3⟩ | hk
      · rw [u2_ne (Or.inl q3), u2_ne (Or.inl q2), u2_ne (Or.inl q1)]
      · rw [u2_ne (Or.inr hk), u2_ne (Or.inr hk), u2_ne (Or.inr hk)]
    have d27 : S1 27 (4 * m + d) = w 3 := by rw [← hS1, u2_ne (by omega), u2_ne (by omega), u2_eq]
    have d28 : S1 28 (4 * m + d) = w 3 := by rw [← hS1, u2_ne (by omega), u2_eq]
    have d29 : S1 29 (4 * m + d) = w 9 := by rw [← hS1, u2_eq]
    generalize hww : (wu (w4 7 (Int32.ofNat m) (w 1) (w 3)) 6 (w 6)) = ww
    have hs : ∀ r k, r ≠ 37 → r ≠ 39 → r ≠ 40 → (snd (S1, F) ww FP.fconst0).1 r k = S1 r k := fun r k q1 q2 q3 => snd_ne q1 q2 q3 k
    have hsF : ∀ r k, r ≠ 38 → (snd (S1, F) ww FP.fconst0).2 r k = F r k := fun r k q => snd_neF q k
    have he : ∀ r k, r ≠ 37 → r ≠ 39 → r ≠ 40 → r < 48 → (r < 27 ∨ 36 < r ∨ k ≠ 4 * m + d) → (snd (S1, F) ww FP.fconst0).1 r k = S r k := fun r k q1 q2 q3 q4 q5 => (hs r k q1 q2 q3).trans (n1 r k (by omega))
    have eb : blS (snd (S1, F) ww FP.fconst0).1 d = yup (blS S d) m (b : Int) := by
      funext a
      unfold blS
      rw [hs 27 _ (by decide) (by decide) (by decide)]
      by_cases z : a = m
      · subst z; rw [yup_eq, d27, k3, o_i _ (by omega)]
      · rw [yup_ne z, n1 27 _ (by omega)]
    have ebo : ∀ d', d' ≠ d → d' < 4 → blS (snd (S1, F) ww FP.fconst0).1 d' = blS S d' := by
      intro d' hne hd'
      funext a
      unfold blS
      rw [hs 27 _ (by decide) (by decide) (by decide), n1 27 _ (by omega)]
    have zx : zX (blS S d) (blS (snd (S1, F) ww FP.fconst0).1 d) (pa d) (zAcc (pa d) m b) (pv d) (pv d) := by
      rw [eb]
      exact zX_accept hle
    have pad : yup pa d (zAcc (pa d) m b) d = zAcc (pa d) m b := yup_eq
    have pao : ∀ d', d' ≠ d → yup pa d (zAcc (pa d) m b) d' = pa d' := fun d' z => yup_ne z
    have zxa : ∀ d', d' < 4 → zX (blS S d') (blS (snd (S1, F) ww FP.fconst0).1 d') (pa d') (yup pa d (zAcc (pa d) m b) d') (pv d') (pv d') := by
      intro d' hd'
      by_cases z : d' = d
      · subst z; rw [pad]; exact zx
      · rw [ebo d' z hd', pao d' z]; exact zX.refl
    have hX1 : MSX (MOK n st (tmS S) g (blS (snd (S1, F) ww FP.fconst0).1) (yup pa d (zAcc (pa d) m b)) pv) S1 F := by
      have h1 : MSX (MOK n st (tmS S) g (blS S) pa pv) S1 F := hX.same (n1 39 0 (by omega)) (funext fun k => n1 37 k (by omega)) rfl
      exact h1.ghost (Nat.le_refl _) yX.refl zxa
    have hX2 := MSX.snd (P := (S1, F)) (w := ww) (c := FP.fconst0) MOK_cg hX1 (by
      subst hww
      refine ⟨7, m, f, rfl, by omega, rfl, hm, k1, kf, fun z => kfm z.symm, PQ_c0.pf, fun z => absurd z (by decide), fun _ => ⟨d, b, hd, k6, k3, kb, fun z => absurd z (by decide), fun z => absurd z (by decide), fun _ => ?_⟩⟩
      rw [pad]
      exact Or.inr ⟨rfl, rfl⟩)
    refine ⟨yup pa d (zAcc (pa d) m b), h.pax (m := m) (d := d) he hsF hd ?_ (fun d' z => ⟨pao d' z, rfl⟩) ?_ hX2⟩
    · rw [pad]
      refine ⟨?_, fun a ha => ?_, fun a ha => ?_, p4, fun i hi => ?_, fun i hi hz => ?_⟩
      · rw [eb]; exact zI_accept p1 hm hpv hle
      · rw [eb]
        by_cases z : a = m
        · subst z; rw [yup_eq]; omega
        · rw [yup_ne z]; exact p2 a ha
      · by_cases z : a = m
        · subst z
          right
          refine ⟨b, ?_, by omega, Or.inr ⟨rfl, rfl⟩, ?_, fun b' hb' hb2 => ?_⟩
          · rw [hs 28 _ (by decide) (by decide) (by decide), d28]; exact k3
          · rw [hs 29 _ (by decide) (by decide) (by decide), d29]; exact hpv
          · rcases hb2 with hb2 | ⟨_, hb2⟩
            · have := (p1.1 a b' hb2).2.1
              omega
            · omega
        · refine PAC_x (p3 a ha) ((hs 28 _ (by decide) (by decide) (by decide)).trans (n1 28 _ (by omega))) ((hs 29 _ (by decide) (by decide) (by decide)).trans (n1 29 _ (by omega))) (fun b' => ⟨fun q => ?_, Or.inl⟩) (fun _ _ hx => hx)
          rcases q with q | ⟨q, _⟩
          · exact q
          · exact absurd q z
      · exact PRO_x (p5 i hi) (fun r r1 r2 => (hs r _ (by omega) (by omega) (by omega)).trans (n1 r _ (by omega))) zx (fun _ _ hx => hx)
      · rw [hs 30 _ (by decide) (by decide) (by decide), n1 30 _ (by omega)] at hz ⊢
        obtain ⟨b', q1, q2⟩ := p6 i hi hz
        exact ⟨b', q1.mono zx, q2⟩
    · intro k hk
      rw [hs 35 _ (by decide) (by decide) (by decide), hs 33 _ (by decide) (by decide) (by decide), hs 36 _ (by decide) (by decide) (by decide), hs 34 _ (by decide) (by decide) (by decide), n1 35 _ (by omega), n1 33 _ (by omega), n1 36 _ (by omega), n1 34 _ (by omega)]
      exact hZ k hk
theorem or_small {x : Int32} {gg f : Nat} (h : x = Int32.ofNat gg) (hg : gg < 32) (hf : f < 5) : ∃ g2, x ||| bitI (Int32.ofNat f) = Int32.ofNat g2 ∧ g2 < 32 := by
  have e : bitI (Int32.ofNat f) = Int32.ofNat (2 ^ f) := o_shl f (by omega)
  refine ⟨gg ||| 2 ^ f, ?_, ?_⟩
  · rw [h, e, o_or]
  · have : 2 ^ f < 2 ^ 5 := Nat.pow_lt_pow_right (by omega) (by omega)
    exact Nat.or_lt_two_pow (n := 5) hg this
theorem inv_counts (hst : st < 2000) (h : INV st n na g pa pv S F) (hm : m < n) (hw2 : w 2 = Int32.ofNat m) (hw0 : w 0 = 7) (hK : MOK n st (tmS S) g (blS S) pa pv w c) : INV st n na g pa pv (countsS S m w) F ∧ (∀ b, (S 31 (4 * m + nt (w 6)) = w 3 ∧ S 35 (4 * m + nt (w 6)) = 1 ∧ mostI S ≤ popN (S 36 (4 * m + nt (w 6)) ||| bitI (w 1))) → S 30 (4 * m + nt (w 6)) ≠ -1 → b = S 30 (4 * m + nt (w 6)) → b = S 32 (4 * m + nt (w 6))) := by
  obtain ⟨⟨a1, a2, a3, _⟩, _, _, _, hP, hZ, _, _, hX, hL⟩ := id h
  have n5 : n ≤ 5 := by omega
  obtain ⟨f, d, b, kf, kfm, k1, hd, k6, k3, kb, _, _, k77⟩ := hK.bal hm n5 hw2 (kd := 7) hw0 (by omega) (by omega)
  have hac := k77 rfl
  have en6 : nt (w 6) = d := nt_of k6 (by omega)
  rw [en6]
  obtain ⟨p1, p2, p3, p4, p5, p6⟩ := hP d hd
  have ebit : bitI (w 1) = bitI (Int32.ofNat f) := by rw [k1]
  -- what is counted then
  have cnt : S 31 (4 * m + d) = w 3 → S 35 (4 * m + d) = 1 → (pv d b = some (S 32 (4 * m + d)) ∧ ∀ a, a < 5 → tb (S 36 (4 * m + d) ||| bitI (w 1)) a = true → a < n ∧ pa d a b) := by
    intro c31 c35
    have h31 : S 31 (4 * m + d) ≠ -1 := by
      rw [c31, k3, Ne, o_ne1 _ (by omega)]; exact id
    obtain ⟨b2, q1, q2, q3, q4, q5⟩ := p5 m hm h31
    have e : b2 = b := o_inj (q1.symm.trans (c31.trans k3)) (by omega) (by omega)
    subst e
    rcases q5 with ⟨r1, _⟩ | ⟨r1, r2, r3⟩
    · rw [c35] at r1; exact absurd r1 (by decide)
    · refine ⟨r2, fun a ha hta => ?_⟩
      rw [tb_or, Bool.or_eq_true] at hta
      rcases hta with q | q
      · exact r3 a ha q
      · rw [ebit, tb_bitI (by omega) (by omega)] at q
        have e := of_decide_eq_true q
        subst e
        exact ⟨kf, hac⟩
  have chosen : S 31 (4 * m + d) = w 3 → S 35 (4 * m + d) = 1 → mostI S ≤ popN (S 36 (4 * m + d) ||| bitI (w 1)) → zH n (pa d) b := by
    intro c31 c35 cm
    obtain ⟨_, q2⟩ := cnt c31 c35
    exact ⟨_, maj_of a1 a2 (fun a ha hta => (q2 a ha hta).1) cm, fun a ha hta => (q2 a (by omega) hta).2⟩
  refine ⟨?_, fun x hx hx2 hx3 => ?_⟩
  · unfold countsS
    dsimp only
    rw [en6]
    split
    · rename_i cc
      obtain ⟨c31, c35⟩ := cc
      obtain ⟨q1, q2⟩ := cnt c31 c35
      generalize hS2 : (if mostI S ≤ popN (u2 S 36 (4 * m + d) (S 36 (4 * m + d) ||| bitI (w 1)) 36 (4 * m + d)) ∧ S 30 (4 * m + d) = -1 then u2 (u2 S 36 (4 * m + d) (S 36 (4 * m + d) ||| bitI (w 1))) 30 (4 * m + d) (S 32 (4 * m + d)) else u2 S 36 (4 * m + d) (S 36 (4 * m + d) ||| bitI (w 1))) = S2
      have n2 : ∀ r k, (r ≠ 30 ∧ r ≠ 36) ∨ k ≠ 4 * m + d → S2 r k = S r k := by
        intro r k hk
        rw [← hS2]
        split
        · rcases hk with ⟨y1, y2⟩ | hk
          · rw [u2_ne (Or.inl y1), u2_ne (Or.inl y2)]
          · rw [u2_ne (Or.inr hk), u2_ne (Or.inr hk)]
        · rcases hk with ⟨y1, y2⟩ | hk
          · rw [u2_ne (Or.inl y2)]
          · rw [u2_ne (Or.inr hk)]
      have d36 : S2 36 (4 * m + d) = S 36 (4 * m + d) ||| bitI (w 1) := by
        rw [← hS2]
        split
        · rw [u2_ne (by omega), u2_eq]
        · rw [u2_eq]
      have d30 : S2 30 (4 * m + d) = S 30 (4 * m + d) ∨ (S2 30 (4 * m + d) = S 32 (4 * m + d) ∧ zH n (pa d) b) := by
        rw [← hS2]
        split
        · rename_i cm
          rw [u2_eq] at cm ⊢
          exact Or.inr ⟨rfl, chosen c31 c35 cm.1⟩
        · rw [u2_ne (by omega)]; exact Or.inl rfl
      have eb : blS S2 = blS S := by
        funext d' a
        unfold blS
        rw [n2 27 _ (by omega)]
      have hX2 : MSX (MOK n st (tmS S) g (blS S2) pa pv) S2 F := by
        rw [eb]
        exact hX.same (n2 39 0 (by omega)) (funext fun k => n2 37 k (by omega)) rfl
      refine h.pax (m := m) (d := d) (fun r k _ _ _ _ q => n2 r k (by omega)) (fun _ _ _ => rfl) hd ⟨by rw [eb]; exact p1, by rw [eb]; exact p2, fun a ha => ?_, p4, fun i hi => ?_, fun i hi hz => ?_⟩ (fun _ _ => ⟨rfl, rfl⟩) (fun k hk => ?_) hX2
      · exact PAC_x (p3 a ha) (n2 28 _ (by omega)) (n2 29 _ (by omega)) (fun _ => Iff.rfl) (fun _ _ hx => hx)
      · by_cases z : i = m
        · subst z
          unfold PRO
          rw [n2 31 _ (by omega), n2 32 _ (by omega), n2 33 _ (by omega), n2 34 _ (by omega), n2 35 _ (by omega), d36, eb]
          intro h31
          obtain ⟨b2, y1, y2, y3, y4, y5⟩ := p5 i hi h31
          have e : b2 = b := o_inj (y1.symm.trans (c31.trans k3)) (by omega) (by omega)
          subst e
          exact ⟨b2, y1, y2, y3, y4, Or.inr ⟨c35, q1, q2⟩⟩
        · exact PRO_x (p5 i hi) (fun r r1 r2 => n2 r _ (by omega)) (by rw [eb]; exact zX.refl) (fun _ _ hx => hx)
      · by_cases z : i = m
        · subst z
          rcases d30 with y | ⟨y1, y2⟩
          · rw [y] at hz ⊢; exact p6 i hi hz
          · rw [y1]; exact ⟨b, y2, q1⟩
        · rw [n2 30 _ (by omega)] at hz ⊢; exact p6 i hi hz
      · by_cases z : k = 4 * m + d
        · subst z
          obtain ⟨z1, z2, ⟨gg, z3, z4⟩, z5⟩ := hZ _ hk
          rw [n2 35 _ (by omega), n2 33 _ (by omega), n2 34 _ (by omega), d36]
          exact ⟨z1, z2, by rw [ebit]; exact or_small z3 z4 (by omega), z5⟩
        · rw [n2 35 _ (by omega), n2 33 _ (by omega), n2 34 _ (by omega), n2 36 _ (by omega)]
          exact hZ k hk
    · exact h
  · obtain ⟨c31, c35, cm⟩ := hx
    obtain ⟨q1, _⟩ := cnt c31 c35
    obtain ⟨b', y1, y2⟩ := p6 m hm hx2
    rw [hx3]
    exact p1.one y1 (chosen c31 c35 cm) y2 q1
end DEL5
