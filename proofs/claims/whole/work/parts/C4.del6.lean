/-! ===== the invariant in a delivery: PROMISED ===== -/
section DEL6
variable {st n na : Nat} {g : YG} {pa pa' : Nat → ZA} {pv pv' : Nat → ZV} {S S' : SI} {F F' : SF} {m d : Nat} {w : RW} {c : UInt32}
theorem tell_ne {k r x : Nat} (h : (r ≠ 32 ∧ r ≠ 33 ∧ r ≠ 34) ∨ x ≠ k) : tellS S k w r x = S r x := by
  unfold tellS
  split
  · rcases h with ⟨h1, h2, h3⟩ | h
    · rw [u2_ne (Or.inl h1), u2_ne (Or.inl h3), u2_ne (Or.inl h2)]
    · rw [u2_ne (Or.inr h), u2_ne (Or.inr h), u2_ne (Or.inr h)]
  · rcases h with ⟨h1, h2, h3⟩ | h
    · rw [u2_ne (Or.inl h2)]
    · rw [u2_ne (Or.inr h)]
theorem tell_33 {k : Nat} : tellS S k w 33 k = S 33 k ||| bitI (w 1) := by
  unfold tellS
  split
  · rw [u2_ne (by omega), u2_ne (by omega), u2_eq]
  · rw [u2_eq]
theorem tell_34 {k : Nat} : (S 34 k < w 4 ∧ tellS S k w 34 k = w 4 ∧ tellS S k w 32 k = w 5) ∨ (¬ S 34 k < w 4 ∧ tellS S k w 34 k = S 34 k ∧ tellS S k w 32 k = S 32 k) := by
  unfold tellS
  split
  · rename_i c
    refine Or.inl ⟨c, ?_, ?_⟩
    · rw [u2_ne (by omega), u2_eq]
    · rw [u2_eq]
  · rename_i c
    refine Or.inr ⟨c, ?_, ?_⟩
    · rw [u2_ne (by omega)]
    · rw [u2_ne (by omega)]
theorem inv_promised (hst : st < 2000) (h : INV st n na g pa pv S F) (hm : m < n) (hw2 : w 2 = Int32.ofNat m) (hw0 : w 0 = 5) (hK : MOK n st (tmS S) g (blS S) pa pv w c) : ∃ pa' pv', INV st n na g pa' pv' (promisedP (S, F) m w).1 (promisedP (S, F) m w).2 := by
  obtain ⟨⟨a1, a2, a3, _⟩, _, _, _, hP, hZ, _, _, hX, hL⟩ := id h
  have n5 : n ≤ 5 := by omega
  obtain ⟨f, d, b, kf, kfm, k1, hd, k6, k3, kb, k55, _, _⟩ := hK.bal hm n5 hw2 (kd := 5) hw0 (by omega) (by omega)
  obtain ⟨kbl, kacc⟩ := k55 rfl
  have en6 : nt (w 6) = d := nt_of k6 (by omega)
  have ebit : bitI (w 1) = bitI (Int32.ofNat f) := by rw [k1]
  unfold promisedP
  dsimp only
  rw [en6]
  split
  · exact ⟨pa, pv, h⟩
  · rename_i nc
    have c31 : S 31 (4 * m + d) = w 3 := Classical.byContradiction fun z => nc (Or.inl z)
    have c27 : S 27 (4 * m + d) = w 3 := Classical.byContradiction fun z => nc (Or.inr (Or.inl z))
    have c35 : ¬ S 35 (4 * m + d) = 1 := fun z => nc (Or.inr (Or.inr z))
    obtain ⟨p1, p2, p3, p4, p5, p6⟩ := hP d hd
    have h31 : S 31 (4 * m + d) ≠ -1 := by
      rw [c31, k3, Ne, o_ne1 _ (by omega)]; exact id
    obtain ⟨b2, q1, q2, q3, q4, q5⟩ := p5 m hm h31
    have e : b2 = b := o_inj (q1.symm.trans (c31.trans k3)) (by omega) (by omega)
    subst e
    obtain ⟨z35, ⟨gg, z33, z33b⟩, _, z34⟩ := hZ (4 * m + d) (by omega)
    have blm : blS S d m = b2 := by
      unfold blS
      rw [c27, k3, o_i _ (by omega)]
    obtain ⟨r1, r2, r3, r4, r5⟩ := q5.resolve_right (fun z => c35 z.1)
    -- what is known behind the answer
    have T33 := tell_33 (S := S) (w := w) (k := 4 * m + d)
    have T := tell_34 (S := S) (w := w) (k := 4 * m + d)
    have tne : ∀ r x, (r ≠ 32 ∧ r ≠ 33 ∧ r ≠ 34) ∨ x ≠ 4 * m + d → tellS S (4 * m + d) w r x = S r x := fun r x hh => tell_ne hh
    generalize tellS S (4 * m + d) w = S1 at *
    have i4 : (w 4).toInt = -1 ∨ ∃ x : Nat, (w 4).toInt = x ∧ x < 100000 := by
      rcases kacc with ⟨y1, _⟩ | ⟨x, y1, y2, _⟩
      · rw [y1]; exact Or.inl rfl
      · rw [y1, o_i _ (by omega)]; exact Or.inr ⟨x, rfl, by omega⟩
    have best_ge : (S 34 (4 * m + d)).toInt ≤ (S1 34 (4 * m + d)).toInt ∧ (w 4).toInt ≤ (S1 34 (4 * m + d)).toInt := by
      rcases T with ⟨t1, t2, _⟩ | ⟨t1, t2, _⟩
      · rw [t2]; rw [Int32.lt_iff_toInt_lt] at t1; omega
      · rw [t2]; rw [Int32.lt_iff_toInt_lt] at t1; omega
    have bits : ∀ a, a < 5 → tb (S1 33 (4 * m + d)) a = true → a < n ∧ (b2 : Int) ≤ blS S d a ∧ ∀ b', b' < b2 → (S1 34 (4 * m + d)).toInt < b' → ¬ pa d a b' := by
      intro a ha hta
      rw [T33, tb_or, Bool.or_eq_true] at hta
      rcases hta with u | u
      · obtain ⟨s1, s2, s3⟩ := r3 a ha u
        exact ⟨s1, s2, fun b' hb' hbb => s3 b' hb' (by omega)⟩
      · rw [ebit, tb_bitI (by omega) (by omega)] at u
        have e := of_decide_eq_true u
        subst e
        refine ⟨kf, kbl, fun b' hb' hbb => ?_⟩
        rcases kacc with ⟨_, y2⟩ | ⟨x, y1, y2, _, y4⟩
        · exact y2 b' hb'
        · rw [y1, o_i _ (by omega)] at best_ge
          exact y4 b' hb' (by omega)
    have val : S1 34 (4 * m + d) = -1 ∨ ∃ x, S1 34 (4 * m + d) = Int32.ofNat x ∧ x < b2 ∧ pv d x = some (S1 32 (4 * m + d)) := by
      rcases T with ⟨t1, t2, t3⟩ | ⟨t1, t2, t3⟩
      · rw [t2, t3]
        rcases kacc with ⟨y1, _⟩ | ⟨x, y1, y2, y3, _⟩
        · exact Or.inl y1
        · exact Or.inr ⟨x, y1, y2, y3⟩
      · rw [t2, t3]; exact r4
    have v1 : S1 32 (4 * m + d) ≠ -1 := by
      rcases T with ⟨t1, t2, t3⟩ | ⟨t1, t2, t3⟩
      · rw [t3]
        rcases kacc with ⟨y1, _⟩ | ⟨x, y1, y2, y3, _⟩
        · rw [y1, Int32.lt_iff_toInt_lt] at t1
          have : (-1 : Int32).toInt = -1 := rfl
          omega
        · exact (p4 x _ y3).1
      · rw [t3]; exact r5
    have s34 : -1 ≤ (S1 34 (4 * m + d)).toInt := by omega
    have s33 : ∃ g2, S1 33 (4 * m + d) = Int32.ofNat g2 ∧ g2 < 32 := by
      rw [T33, ebit]; exact or_small z33 z33b (by omega)
    have mostE : mostI S1 = mostI S := by
      unfold mostI
      rw [tne 0 0 (by omega)]
    split
    · -- not most yet
      show ∃ pa' pv', INV st n na g pa' pv' S1 F
      have eb : blS S1 = blS S := by
        funext d' a
        unfold blS
        rw [tne 27 _ (by omega)]
      have hX1 : MSX (MOK n st (tmS S) g (blS S1) pa pv) S1 F := by
        rw [eb]
        exact hX.same (tne 39 0 (by omega)) (funext fun k => tne 37 k (by omega)) rfl
      refine ⟨pa, pv, h.pax (m := m) (d := d) (fun r k _ _ _ _ q => tne r k (by omega)) (fun _ _ _ => rfl) hd ⟨by rw [eb]; exact p1, by rw [eb]; exact p2, fun a ha => ?_, p4, fun i hi => ?_, fun i hi => ?_⟩ (fun _ _ => ⟨rfl, rfl⟩) (fun k hk => ?_) hX1⟩
      · exact PAC_x (p3 a ha) (tne 28 _ (by omega)) (tne 29 _ (by omega)) (fun _ => Iff.rfl) (fun _ _ hx => hx)
      · by_cases z : i = m
        · subst z
          unfold PRO
          rw [tne 31 _ (by omega), tne 35 _ (by omega), eb]
          intro _
          exact ⟨b2, q1, q2, q3, q4, Or.inl ⟨r1, r2, bits, val, v1⟩⟩
        · exact PRO_x (p5 i hi) (fun r r1 r2 => tne r _ (by omega)) (by rw [eb]; exact zX.refl) (fun _ _ hx => hx)
      · rw [tne 30 _ (by omega)]; exact p6 i hi
      · by_cases z : k = 4 * m + d
        · subst z
          rw [tne 35 _ (by omega), tne 36 _ (by omega)]
          exact ⟨(hZ _ hk).1, s33, (hZ _ hk).2.2.1, s34⟩
        · rw [tne 35 _ (by omega), tne 33 _ (by omega), tne 34 _ (by omega), tne 36 _ (by omega)]
          exact hZ k hk
    · -- most: it goes on
      rename_i cm
      have cm' : mostI S ≤ popN (S1 33 (4 * m + d)) := by rw [← mostE]; exact Int32.not_lt.mp cm
      have hq := maj_of a1 a2 (fun a ha hta => (bits a ha hta).1) cm'
      have en1 : nt (S1 0 0) = n := by rw [tne 0 0 (by omega)]; exact nt_of a1 (by omega)
      rw [en1]
      have hbest : (S1 34 (4 * m + d)).toInt = -1 ∨ ∃ x : Nat, (S1 34 (4 * m + d)).toInt = x ∧ x < b2 ∧ pv d x = some (S1 32 (4 * m + d)) := by
        rcases val with y | ⟨x, y1, y2, y3⟩
        · rw [y]; exact Or.inl rfl
        · rw [y1, o_i _ (by omega)]; exact Or.inr ⟨x, rfl, y2, y3⟩
      have zi := zI_goon (v := S1 32 (4 * m + d)) p1 hm q3 blm r2 hq (fun a ha hta => (bits a (by omega) hta).2) hbest
      have zx0 : zX (blS S d) (blS S d) (pa d) (zAcc (pa d) m b2) (pv d) (yup (pv d) b2 (some (S1 32 (4 * m + d)))) := zX_goon blm r2
      generalize hS2 : goOnS S1 m (4 * m + d) = S2
      have n2 : ∀ r k, (r ≠ 28 ∧ r ≠ 29 ∧ r ≠ 32 ∧ r ≠ 33 ∧ r ≠ 34 ∧ r ≠ 35 ∧ r ≠ 36) ∨ k ≠ 4 * m + d → S2 r k = S r k := by
        intro r k hk
        rw [← hS2]
        unfold goOnS
        rcases hk with ⟨y1, y2, y3, y4, y5, y6, y7⟩ | hk
        · rw [u2_ne (Or.inl y7), u2_ne (Or.inl y2), u2_ne (Or.inl y1), u2_ne (Or.inl y6)]
          exact tne r k (Or.inl ⟨y3, y4, y5⟩)
        · rw [u2_ne (Or.inr hk), u2_ne (Or.inr hk), u2_ne (Or.inr hk), u2_ne (Or.inr hk)]
          exact tne r k (Or.inr hk)
      have d28 : S2 28 (4 * m + d) = Int32.ofNat b2 := by
        rw [← hS2]; unfold goOnS
        rw [u2_ne (by omega), u2_ne (by omega), u2_eq, tne 31 _ (by omega)]; exact q1
      have d29 : S2 29 (4 * m + d) = S1 32 (4 * m + d) := by
        rw [← hS2]; unfold goOnS
        rw [u2_ne (by omega), u2_eq]
      have d32 : S2 32 (4 * m + d) = S1 32 (4 * m + d) := by
        rw [← hS2]; unfold goOnS
        rw [u2_ne (by omega), u2_ne (by omega), u2_ne (by omega), u2_ne (by omega)]
      have d33 : S2 33 (4 * m + d) = S1 33 (4 * m + d) := by
        rw [← hS2]; unfold goOnS
        rw [u2_ne (by omega), u2_ne (by omega), u2_ne (by omega), u2_ne (by omega)]
      have d34 : S2 34 (4 * m + d) = S1 34 (4 * m + d) := by
        rw [← hS2]; unfold goOnS
        rw [u2_ne (by omega), u2_ne (by omega), u2_ne (by omega), u2_ne (by omega)]
      have d35 : S2 35 (4 * m + d) = 1 := by
        rw [← hS2]; unfold goOnS
        rw [u2_ne (by omega), u2_ne (by omega), u2_ne (by omega), u2_eq]
      have d36 : S2 36 (4 * m + d) = bitI (Int32.ofNat m) := by
        rw [← hS2]; unfold goOnS
        rw [u2_eq]
      have d31 : S2 31 (4 * m + d) = Int32.ofNat b2 := (n2 31 _ (by omega)).trans q1
      have hs : ∀ r k, r ≠ 37 → r ≠ 39 → r ≠ 40 → (toAll (fun o => accW S2 m (4 * m + d) o (w 6)) FP.fconst0 m n (S2, F)).1 r k = S2 r k := fun r k y1 y2 y3 => toAll_ne y1 y2 y3 _ _
      have hsF : ∀ r k, r ≠ 38 → (toAll (fun o => accW S2 m (4 * m + d) o (w 6)) FP.fconst0 m n (S2, F)).2 r k = F r k := fun r k y => toAll_neF y _ _
      have he : ∀ r k, r ≠ 37 → r ≠ 39 → r ≠ 40 → r < 48 → (r < 27 ∨ 36 < r ∨ k ≠ 4 * m + d) → (toAll (fun o => accW S2 m (4 * m + d) o (w 6)) FP.fconst0 m n (S2, F)).1 r k = S r k := fun r k y1 y2 y3 y4 y5 => (hs r k y1 y2 y3).trans (n2 r k (by omega))
      have eb2 : blS S2 = blS S := by
        funext d' a
        unfold blS
        rw [n2 27 _ (by omega)]
      have eb : blS (toAll (fun o => accW S2 m (4 * m + d) o (w 6)) FP.fconst0 m n (S2, F)).1 = blS S := by
        rw [← eb2]
        funext d' a
        unfold blS
        rw [hs 27 _ (by decide) (by decide) (by decide)]
      have pad : yup pa d (zAcc (pa d) m b2) d = zAcc (pa d) m b2 := yup_eq
      have pao : ∀ d', d' ≠ d → yup pa d (zAcc (pa d) m b2) d' = pa d' := fun d' z => yup_ne z
      have pvd : yup pv d (yup (pv d) b2 (some (S1 32 (4 * m + d)))) d = yup (pv d) b2 (some (S1 32 (4 * m + d))) := yup_eq
      have pvo : ∀ d', d' ≠ d → yup pv d (yup (pv d) b2 (some (S1 32 (4 * m + d)))) d' = pv d' := fun d' z => yup_ne z
      have zxa : ∀ d', d' < 4 → zX (blS S d') (blS S d') (pa d') (yup pa d (zAcc (pa d) m b2) d') (pv d') (yup pv d (yup (pv d) b2 (some (S1 32 (4 * m + d)))) d') := by
        intro d' _
        by_cases z : d' = d
        · subst z; rw [pad, pvd]; exact zx0
        · rw [pao d' z, pvo d' z]; exact zX.refl
      have hX1 : MSX (MOK n st (tmS S) g (blS S) (yup pa d (zAcc (pa d) m b2)) (yup pv d (yup (pv d) b2 (some (S1 32 (4 * m + d)))))) S2 F := by
        have h1 : MSX (MOK n st (tmS S) g (blS S) pa pv) S2 F := hX.same (n2 39 0 (by omega)) (funext fun k => n2 37 k (by omega)) rfl
        exact h1.ghost (Nat.le_refl _) yX.refl zxa
      have hX2 := MSX.all (P := (S2, F)) (g := fun o => accW S2 m (4 * m + d) o (w 6)) (c := FP.fconst0) (m := m) MOK_cg hX1 n (fun o ho hom => ⟨6, m, o, rfl, by omega, rfl, hm, rfl, ho, fun z => hom z.symm, PQ_c0.pf, fun z => absurd z (by decide), fun _ => ⟨d, b2, hd, k6, d31, kb, fun z => absurd z (by decide), fun _ => by
        show yup pv d (yup (pv d) b2 (some (S1 32 (4 * m + d)))) d b2 = some (S2 32 (4 * m + d))
        rw [pvd, yup_eq, d32], fun z => absurd z (by decide)⟩⟩)
      refine ⟨yup pa d (zAcc (pa d) m b2), yup pv d (yup (pv d) b2 (some (S1 32 (4 * m + d)))), h.pax (m := m) (d := d) he hsF hd ?_ (fun d' z => ⟨pao d' z, pvo d' z⟩) ?_ (by rw [eb]; exact hX2)⟩
      · rw [pad, pvd]
        refine ⟨by rw [eb]; exact zi, by rw [eb]; exact p2, fun a ha => ?_, fun b' x hx => ?_, fun i hi => ?_, fun i hi hz => ?_⟩
        · by_cases z : a = m
          · subst z
            right
            refine ⟨b2, ?_, q2, Or.inr ⟨rfl, rfl⟩, ?_, fun b' hb' hb2 => ?_⟩
            · rw [hs 28 _ (by decide) (by decide) (by decide)]; exact d28
            · rw [hs 29 _ (by decide) (by decide) (by decide), d29, yup_eq]
            · rcases hb2 with hb2 | ⟨_, hb2⟩
              · have := (p1.1 a b' hb2).2.1
                omega
              · omega
          · refine PAC_x (p3 a ha) ((hs 28 _ (by decide) (by decide) (by decide)).trans (n2 28 _ (by omega))) ((hs 29 _ (by decide) (by decide) (by decide)).trans (n2 29 _ (by omega))) (fun b' => ⟨fun q => ?_, Or.inl⟩) zx0.2.2.2
            rcases q with q | ⟨q, _⟩
            · exact q
            · exact absurd q z
        · by_cases z : b' = b2
          · subst z
            rw [yup_eq] at hx
            rw [← Option.some.inj hx]
            exact ⟨v1, kb⟩
          · rw [yup_ne z] at hx; exact p4 b' x hx
        · by_cases z : i = m
          · subst z
            unfold PRO
            rw [hs 31 _ (by decide) (by decide) (by decide), hs 32 _ (by decide) (by decide) (by decide), hs 33 _ (by decide) (by decide) (by decide), hs 34 _ (by decide) (by decide) (by decide), hs 35 _ (by decide) (by decide) (by decide), hs 36 _ (by decide) (by decide) (by decide), d31, d32, d35, d36, eb]
            intro _
            refine ⟨b2, rfl, q2, q3, q4, Or.inr ⟨rfl, yup_eq, fun a ha hta => ?_⟩⟩
            rw [tb_bitI (by omega) (by omega)] at hta
            have e := of_decide_eq_true hta
            subst e
            exact ⟨hi, Or.inr ⟨rfl, rfl⟩⟩
          · refine PRO_x (p5 i hi) (fun r r1 r2 => (hs r _ (by omega) (by omega) (by omega)).trans (n2 r _ (by omega))) (by rw [eb]; exact zx0) (fun b' hb' hx => ?_)
            rw [yup_ne (by omega)]; exact hx
        · rw [hs 30 _ (by decide) (by decide) (by decide), n2 30 _ (by omega)] at hz ⊢
          obtain ⟨b', y1, y2⟩ := p6 i hi hz
          exact ⟨b', y1.mono zx0, zx0.2.2.2 _ _ y2⟩
      · intro k hk
        rw [hs 35 _ (by decide) (by decide) (by decide), hs 33 _ (by decide) (by decide) (by decide), hs 36 _ (by decide) (by decide) (by decide), hs 34 _ (by decide) (by decide) (by decide)]
        by_cases z : k = 4 * m + d
        · subst z
          rw [d35, d33, d36, d34]
          exact ⟨Or.inr rfl, s33, bitI_small (by omega), s34⟩
        · rw [n2 35 _ (Or.inr z), n2 33 _ (Or.inr z), n2 36 _ (Or.inr z), n2 34 _ (Or.inr z)]
          exact hZ k hk
end DEL6
