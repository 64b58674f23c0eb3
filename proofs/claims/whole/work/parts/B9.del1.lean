/-! ===== the invariant in a delivery, before the writes are answered ===== -/
def INVw (st n na : Nat) (g : YG) (pa : Nat → ZA) (pv : Nat → ZV) (S : SI) (F : SF) : Prop :=
  (S 0 0 = Int32.ofNat n ∧ (n = 3 ∨ n = 5) ∧ S 47 0 = Int32.ofNat na ∧ ∃ s, S 4 0 = Int32.ofNat s ∧ s ≤ st) ∧ (∀ m, m < 5 → MAC st S m) ∧ (∀ k, k < 25 → (S 6 k = 0 ∨ S 6 k = 1) ∧ (S 21 k = 0 ∨ S 21 k = 1)) ∧ RFT n S g ∧ (∀ d, d < 4 → PAX st n S d (pa d) (pv d)) ∧ CHZ S ∧ (∀ t e, e ∈ yL g t → hasA S na e.2.1 e.2.2.1) ∧ (HIo S na ∧ ∀ a, a < na → (S 45 a).toInt ≤ (S 4 0).toInt) ∧ MSX (MOK n st (tmS S) g (blS S) pa pv) S F ∧ FLO S F
section DEL1
variable {st n na : Nat} {g g' : YG} {pa pa' : Nat → ZA} {pv pv' : Nat → ZV} {S S' : SI} {F F' : SF} {m d : Nat}
theorem INV.weak (h : INV st n na g pa pv S F) : INVw st n na g pa pv S F := by
  obtain ⟨h1, h2, h3, h4, h5, h6, h7, ⟨h8, h9, _⟩, h10, h11⟩ := h
  exact ⟨h1, h2, h3, h4, h5, h6, h7, ⟨h8, h9⟩, h10, h11⟩
theorem INVw.mach (h : INVw st n na g pa pv S F) (he : ∀ r k, (r < 9 ∨ 26 < r) → r ≠ 37 → r ≠ 39 → r ≠ 40 → r < 48 → S' r k = S r k) (hM : ∀ m, m < 5 → MAC st S' m) (hC : ∀ k, k < 25 → S' 21 k = 0 ∨ S' 21 k = 1) (hR : RFT n S' g') (hE : ∀ t e, e ∈ yL g' t → hasA S na e.2.1 e.2.2.1) (hX : MSX (MOK n st (tmS S') g' (blS S) pa pv) S' F') (hL : FLO S' F') : INVw st n na g' pa pv S' F' := by
  obtain ⟨⟨a1, a2, a3, s0, a4, a5⟩, _, hC0, _, hP, hZ, _, ⟨hH1, hH2⟩, _, _⟩ := h
  have nf : ∀ r, (r < 9 ∨ 26 < r) → r ≠ 37 → r ≠ 39 → r ≠ 40 → r < 48 → S' r = S r := fun r q q1 q2 q3 q4 => funext fun k => he r k q q1 q2 q3 q4
  have eA : ∀ r, 41 ≤ r → r ≤ 47 → S' r = S r := fun r q1 q2 => nf r (by omega) (by omega) (by omega) (by omega) (by omega)
  have eP : ∀ r, 27 ≤ r → r ≤ 36 → S' r = S r := fun r q1 q2 => nf r (by omega) (by omega) (by omega) (by omega) (by omega)
  have e3 : blS S' = blS S := by
    funext d a
    unfold blS
    rw [eP 27 (by omega) (by omega)]
  refine ⟨⟨?_, a2, ?_, s0, ?_, a5⟩, hM, fun k hk => ⟨?_, hC k hk⟩, hR, fun d hd => PAX_same (Nat.le_refl _) (hP d hd) eP, CHZ_congr hZ eP, fun t e he' => hasA_congr (hE t e he') eA, ⟨HIo_congr hH1 eA, fun a ha => ?_⟩, by rw [e3]; exact hX, hL⟩
  · rw [he 0 0 (by omega) (by omega) (by omega) (by omega) (by omega)]; exact a1
  · rw [eA 47 (by omega) (by omega)]; exact a3
  · rw [he 4 0 (by omega) (by omega) (by omega) (by omega) (by omega)]; exact a4
  · rw [he 6 k (by omega) (by omega) (by omega) (by omega) (by omega)]; exact (hC0 k hk).1
  · rw [eA 45 (by omega) (by omega), he 4 0 (by omega) (by omega) (by omega) (by omega) (by omega)]; exact hH2 a ha
/-- writes are answered at the end -/
theorem INVw.ends (hst : st < 2000) (h : INVw st n na g pa pv S F) : INV st n na g pa pv (endsS S) F := by
  obtain ⟨⟨a1, a2, a3, s0, a4, a5⟩, hM, hC, hR, hP, hZ, hE, ⟨⟨b1, b2, b3, b4, b5, b6⟩, hH2⟩, hX, hL⟩ := h
  have en : nt (S 47 0) = na := nt_of a3 (by omega)
  have ne : ∀ r k, r ≠ 46 → endsS S r k = S r k := fun r k h => ends_9 k h
  have nf : ∀ r, r ≠ 46 → endsS S r = S r := fun r h => funext fun k => ne r k h
  have e1 : tmS (endsS S) = tmS S := by
    funext i
    unfold tmS
    rw [nf 9 (by decide)]
  have e3 : blS (endsS S) = blS S := by
    funext d a
    unfold blS
    rw [nf 27 (by decide)]
  have e46 : ∀ a, a < na → endsS S 46 a = if S 41 a = 1 ∧ S 46 a = -1 ∧ agrB S a = true then S 4 0 else S 46 a := by
    intro a ha
    unfold endsS
    rw [en]
    by_cases c : S 41 a = 1 ∧ S 46 a = -1 ∧ agrB S a = true
    · rw [if_pos ⟨rfl, ha, c⟩, if_pos c]
    · rw [if_neg (fun z => c z.2.2), if_neg c]
  have agr : ∀ a, agrB (endsS S) a = agrB S a := by
    intro a
    unfold agrB
    rw [nf 42 (by decide), nf 43 (by decide), ne 0 0 (by decide), nf 11 (by decide), nf 13 (by decide), nf 15 (by decide), nf 16 (by decide)]
  refine ⟨⟨?_, a2, ?_, s0, ?_, a5⟩, fun i hi => ?_, fun k hk => ?_, RFT_congr hR (fun r q1 q2 => nf r (by omega)), fun d hd => PAX_same (Nat.le_refl _) (hP d hd) (fun r q1 q2 => nf r (by omega)), CHZ_congr hZ (fun r q1 q2 => nf r (by omega)), fun t e he => ?_, ⟨⟨b1, fun a ha => ?_, fun a ha => ?_, fun a b hab hb => ?_, fun a ha hz => ?_, fun a ha hz => ?_⟩, fun a ha => ?_, fun a ha hw hz => ?_⟩, ?_, FLO_congr hL (nf 21 (by decide)) (nf 23 (by decide))⟩
  · rw [ne 0 0 (by decide)]; exact a1
  · rw [ne 47 0 (by decide)]; exact a3
  · rw [ne 4 0 (by decide)]; exact a4
  · have := hM i hi
    unfold MAC at this ⊢
    rw [nf 12 (by decide), nf 13 (by decide), nf 9 (by decide), nf 5 (by decide), nf 11 (by decide), nf 23 (by decide), nf 18 (by decide)]
    exact this
  · rw [nf 6 (by decide), nf 21 (by decide)]; exact hC k hk
  · have := hE t e he
    unfold hasA at this ⊢
    rw [nf 41 (by decide), nf 42 (by decide), nf 43 (by decide)]
    exact this
  · rw [nf 41 (by decide)]; exact b2 a ha
  · rw [nf 45 (by decide)]; exact b3 a ha
  · rw [nf 45 (by decide)]; exact b4 a b hab hb
  · rw [nf 41 (by decide)] at hz
    rw [nf 45 (by decide), e46 a ha, if_neg (fun z => by rw [hz] at z; exact absurd z.1 (by decide))]
    exact b5 a ha hz
  · rw [nf 41 (by decide)] at hz
    rw [nf 45 (by decide), e46 a ha]
    split
    · right
      rw [Int32.lt_iff_toInt_lt]
      have := hH2 a ha
      omega
    · exact b6 a ha hz
  · rw [nf 45 (by decide), ne 4 0 (by decide)]; exact hH2 a ha
  · rw [nf 41 (by decide)] at hw
    rw [e46 a ha] at hz
    rw [agr]
    cases y : agrB S a
    · rfl
    · exfalso
      by_cases c : S 46 a = -1
      · rw [if_pos ⟨hw, c, y⟩, a4] at hz
        have : Int32.ofNat s0 ≠ -1 := by rw [Ne, o_ne1 _ (by omega)]; exact id
        exact this hz
      · rw [if_neg (fun z => c z.2.1)] at hz
        exact c hz
  · rw [e1, e3]
    exact hX.same (ne 39 0 (by decide)) (nf 37 (by decide)) rfl
/-- what a delivery begins with -/
theorem inv_del (hst : st < 1000) (h : INV st n na g pa pv S F) {p q : Nat} (hq : S 39 0 = Int32.ofNat q) (hq60 : q ≤ 60) (hp : p < q) : INV (st + 1) n na g pa pv (delS (stepS S) p) (leaveF (stepS S) F p) ∧ MOK n (st + 1) (tmS S) g (blS S) pa pv (fun j => S 37 (24 * p + j)) (F 38 p) := by
  have hm : MSX (MOK n (st + 1) (tmS S) g (blS S) pa pv) (takeS (u2 (stepS S) 40 0 0) p) F := h.msx1.same rfl rfl rfl
  obtain ⟨q', h1, _, h3⟩ := id h.msx1
  have e : q' = q := by
    have e1 := nt_of h1 (by omega)
    have e2 := nt_of hq (by omega)
    omega
  subst e
  refine ⟨h.frame hst (fun s k h4 h6 h37 h39 h40 h48 => ?_) ?_ (fun k hk => ?_) (hm.leave MOK_cg hq hq60 hp) (fun hL => ?_), h3 p hp⟩
  · unfold delS
    rw [leaveS_ne h37 h39]
    unfold takeS
    rw [if_neg (by omega), u2_ne (Or.inl h40)]
    exact u2_ne (Or.inl h4)
  · unfold delS
    rw [leaveS_ne (by decide) (by decide)]
    unfold takeS
    rw [if_neg (by omega), u2_ne (by omega)]
    exact u2_eq
  · unfold delS
    rw [leaveS_ne (by decide) (by decide)]
    exact (h.2.2.1 k hk).1
  · obtain ⟨f1, f2, f3, f4, f5, f6⟩ := hL
    exact ⟨f1, f2, f3, f4, f5, f6⟩
/-- a term is learnt -/
theorem inv_learn (hst : st < 2000) (h : INVw st n na g pa pv S F) (hm : m < n) {t : Nat} (ht : t ≤ st) : INVw st n na g pa pv (learnS S m (Int32.ofNat t)) F ∧ (∀ w c, MOK n st (tmS S) g (blS S) pa pv w c → MOK n st (tmS (learnS S m (Int32.ofNat t))) g (blS (learnS S m (Int32.ofNat t))) pa pv w c) ∧ t ≤ tmS (learnS S m (Int32.ofNat t)) m := by
  obtain ⟨⟨a1, a2, a3, s0, a4, a5⟩, hM, hC, ⟨hR1, hR2, hR3, hR4, hR5, hR6⟩, hP, hZ, hE, hH, hX, hL⟩ := id h
  have n5 : n ≤ 5 := by omega
  obtain ⟨_, ⟨t0, ht0, ht0st⟩, _⟩ := hM m (by omega)
  have etm : tmS S m = t0 := nt_of ht0 (by omega)
  by_cases c : S 9 m < Int32.ofNat t
  · have hlt : t0 < t := by
      rw [ht0, o_lt _ _ (by omega) (by omega)] at c
      exact c
    rw [learn_hit c]
    have ne : ∀ r k, (r ≠ 9 ∧ r ≠ 10 ∧ r ≠ 11 ∧ r ≠ 23) ∨ k ≠ m → followS (u2 (u2 S 9 m (Int32.ofNat t)) 10 m (-1)) m r k = S r k := by
      intro r k hk
      unfold followS
      rcases hk with ⟨h1, h2, h3, h4⟩ | hk
      · rw [u2_ne (Or.inl h4), u2_ne (Or.inl h3), u2_ne (Or.inl h2), u2_ne (Or.inl h1)]
      · rw [u2_ne (Or.inr hk), u2_ne (Or.inr hk), u2_ne (Or.inr hk), u2_ne (Or.inr hk)]
    have nf : ∀ r, (r ≠ 9 ∧ r ≠ 10 ∧ r ≠ 11 ∧ r ≠ 23) → followS (u2 (u2 S 9 m (Int32.ofNat t)) 10 m (-1)) m r = S r := fun r h => funext fun k => ne r k (Or.inl h)
    have d9 : followS (u2 (u2 S 9 m (Int32.ofNat t)) 10 m (-1)) m 9 m = Int32.ofNat t := by
      unfold followS
      rw [u2_ne (by omega), u2_ne (by omega), u2_ne (by omega), u2_eq]
    have d10 : followS (u2 (u2 S 9 m (Int32.ofNat t)) 10 m (-1)) m 10 m = -1 := by
      unfold followS
      rw [u2_ne (by omega), u2_ne (by omega), u2_eq]
    have d11 : followS (u2 (u2 S 9 m (Int32.ofNat t)) 10 m (-1)) m 11 m = 0 := by
      unfold followS
      rw [u2_ne (by omega), u2_eq]
    have d23 : followS (u2 (u2 S 9 m (Int32.ofNat t)) 10 m (-1)) m 23 m = 0 := by
      unfold followS
      rw [u2_eq]
    have x : yX (tmS S) (yup (tmS S) m t) g g := yX_term (by omega)
    have e1 : tmS (followS (u2 (u2 S 9 m (Int32.ofNat t)) 10 m (-1)) m) = yup (tmS S) m t := by
      funext i
      unfold tmS
      by_cases z : i = m
      · subst z; rw [yup_eq, d9]; exact nt_of rfl (by omega)
      · rw [yup_ne z, ne 9 i (Or.inr z)]
    have e2 : lgS (followS (u2 (u2 S 9 m (Int32.ofNat t)) 10 m (-1)) m) = lgS S := lgS_same (nf 12 (by decide)) (nf 14 (by decide)) (nf 15 (by decide)) (nf 16 (by decide)) (nf 17 (by decide))
    have e3 : blS (followS (u2 (u2 S 9 m (Int32.ofNat t)) 10 m (-1)) m) = blS S := by
      funext d a
      unfold blS
      rw [nf 27 (by decide)]
    have mono : ∀ w c, MOK n st (tmS S) g (blS S) pa pv w c → MOK n st (yup (tmS S) m t) g (blS S) pa pv w c := fun w c hw => MOK.mono (Nat.le_refl _) x (fun _ _ => zX.refl) hw
    have tmi : ∀ i, i ≠ m → tmS (followS (u2 (u2 S 9 m (Int32.ofNat t)) 10 m (-1)) m) i = tmS S i := fun i z => by rw [e1, yup_ne z]
    refine ⟨h.mach (fun r k q q1 q2 q3 q4 => ne r k (Or.inl (by omega))) (fun i hi => ?_) (fun k hk => ?_) ⟨?_, fun i hi => ?_, fun i hi => ?_, fun i hi => ?_, fun i hi => ?_, hR6⟩ hE ?_ ?_, fun w c hw => ?_, ?_⟩
    · by_cases z : i = m
      · subst z
        obtain ⟨b0, _, b1, _, _, _, b2⟩ := hM i hi
        unfold MAC
        rw [d9, d11, d23, ne 12 i (by omega), ne 13 i (by omega), ne 5 i (by omega), ne 18 i (by omega)]
        exact ⟨b0, ⟨t, rfl, ht⟩, b1, Or.inl rfl, Or.inl rfl, fun w => absurd w (by decide), b2⟩
      · have := hM i hi
        unfold MAC at this ⊢
        rw [ne 12 i (Or.inr z), ne 13 i (Or.inr z), ne 9 i (Or.inr z), ne 5 i (Or.inr z), ne 11 i (Or.inr z), ne 23 i (Or.inr z), ne 18 i (Or.inr z)]
        exact this
    · rw [nf 21 (by decide)]; exact (hC k hk).2
    · rw [e1, e2]; exact yI_term hR1 (by omega)
    · by_cases z : i = m
      · subst z
        rw [d10, e1, yup_eq]
        exact Or.inl ⟨rfl, yV_none hR1 (by omega)⟩
      · rw [ne 10 i (Or.inr z), tmi i z]; exact hR2 i hi
    · unfold RCA
      by_cases z : i = m
      · subst z; rw [d11]; exact fun w => absurd w (by decide)
      · rw [ne 11 i (Or.inr z), tmi i z, e2, ne 18 i (Or.inr z)]; exact hR3 i hi
    · unfold RLE
      by_cases z : i = m
      · subst z; rw [d11]; exact fun w => absurd w (by decide)
      · rw [ne 11 i (Or.inr z), tmi i z, e2, nf 19 (by decide), nf 20 (by decide), nf 21 (by decide)]; exact hR4 i hi
    · rw [ne 13 i (by omega), e2]
      refine (hR5 i hi).mono x ?_ (List.prefix_refl _)
      rw [e1]
      exact x.1 i
    · rw [e1]
      have h1 : MSX (MOK n st (tmS S) g (blS S) pa pv) (followS (u2 (u2 S 9 m (Int32.ofNat t)) 10 m (-1)) m) F := hX.same (ne 39 0 (by omega)) (nf 37 (by decide)) rfl
      exact h1.mono mono
    · obtain ⟨f1, f2, f3, f4, f5, f6⟩ := hL
      refine ⟨f1, f2, f3, f4, fun k hk => ?_, fun i hi => ?_⟩
      · rw [nf 21 (by decide)]; exact f5 k hk
      · by_cases z : i = m
        · subst z; rw [d23]; exact fun w => absurd w (by decide)
        · rw [ne 23 i (Or.inr z)]; exact f6 i hi
    · rw [e1, e3]; exact mono w c hw
    · rw [e1, yup_eq]; exact Nat.le_refl _
  · rw [learn_mis c]
    refine ⟨h, fun w c hw => hw, ?_⟩
    rw [ht0, o_lt _ _ (by omega) (by omega)] at c
    omega
end DEL1
