/-! ===== the invariant: what is not touched; the bench's calls ===== -/
section FRAME
variable {st n na : Nat} {g : YG} {pa : Nat → ZA} {pv : Nat → ZV} {S S' : SI} {F F' : SF}
theorem MAC_congr {m : Nat} (h : MAC st S m) (h5 : S' 5 m = S 5 m) (h9 : S' 9 m = S 9 m) (h11 : S' 11 m = S 11 m) (h12 : S' 12 m = S 12 m) (h13 : S' 13 m = S 13 m) (h18 : S' 18 m = S 18 m) (h23 : S' 23 m = S 23 m) : MAC (st + 1) S' m := by
  obtain ⟨a, ⟨t, b1, b2⟩, c⟩ := h
  unfold MAC
  rw [h5, h9, h11, h12, h13, h18, h23]
  exact ⟨a, ⟨t, b1, by omega⟩, c⟩
theorem RFT_congr (h : RFT n S g) (e : ∀ s, 9 ≤ s → s ≤ 21 → S' s = S s) : RFT n S' g := by
  have e1 : tmS S' = tmS S := by
    funext i
    unfold tmS
    rw [e 9 (by omega) (by omega)]
  have e2 : lgS S' = lgS S := lgS_same (e 12 (by omega) (by omega)) (e 14 (by omega) (by omega)) (e 15 (by omega) (by omega)) (e 16 (by omega) (by omega)) (e 17 (by omega) (by omega))
  obtain ⟨h1, h2, h3, h4, h5, h6⟩ := h
  refine ⟨by rw [e1, e2]; exact h1, ?_, ?_, ?_, ?_, h6⟩
  · unfold RVO
    rw [e1, e 10 (by omega) (by omega)]
    exact h2
  · unfold RCA
    rw [e1, e2, e 11 (by omega) (by omega), e 18 (by omega) (by omega)]
    exact h3
  · unfold RLE
    rw [e1, e2, e 11 (by omega) (by omega), e 19 (by omega) (by omega), e 20 (by omega) (by omega), e 21 (by omega) (by omega)]
    exact h4
  · rw [e1, e2, e 13 (by omega) (by omega)]
    exact h5
theorem PAX_congr {d : Nat} {ac : ZA} {v : ZV} (h : PAX st n S d ac v) (e : ∀ s, 27 ≤ s → s ≤ 36 → S' s = S s) : PAX (st + 1) n S' d ac v := by
  obtain ⟨h1, h2, h3, h4, h5, h6⟩ := h
  have e1 : blS S' d = blS S d := by
    funext a
    unfold blS
    rw [e 27 (by omega) (by omega)]
  refine ⟨by rw [e1]; exact h1, fun a ha => ?_, ?_, fun b w hw => ?_, ?_, ?_⟩
  · rw [e1]
    have := h2 a ha
    omega
  · unfold PAC
    rw [e 28 (by omega) (by omega), e 29 (by omega) (by omega)]
    exact h3
  · have := h4 b w hw
    exact ⟨this.1, by omega⟩
  · unfold PRO
    rw [e1, e 31 (by omega) (by omega), e 32 (by omega) (by omega), e 33 (by omega) (by omega), e 34 (by omega) (by omega), e 35 (by omega) (by omega), e 36 (by omega) (by omega)]
    exact h5
  · rw [e 30 (by omega) (by omega)]
    exact h6
theorem CHZ_congr (h : CHZ S) (e : ∀ s, 27 ≤ s → s ≤ 36 → S' s = S s) : CHZ S' := by
  unfold CHZ
  rw [e 33 (by omega) (by omega), e 34 (by omega) (by omega), e 35 (by omega) (by omega), e 36 (by omega) (by omega)]
  exact h
theorem hasA_congr {c s : Int32} (h : hasA S na c s) (e : ∀ s, 41 ≤ s → s ≤ 47 → S' s = S s) : hasA S' na c s := by
  unfold hasA
  rw [e 41 (by omega) (by omega), e 42 (by omega) (by omega), e 43 (by omega) (by omega)]
  exact h
theorem HIo_congr (h : HIo S na) (e : ∀ s, 41 ≤ s → s ≤ 47 → S' s = S s) : HIo S' na := by
  unfold HIo
  rw [e 41 (by omega) (by omega), e 45 (by omega) (by omega), e 46 (by omega) (by omega)]
  exact h
theorem agrB_congr {a : Nat} (e : ∀ s, 41 ≤ s → s ≤ 47 → S' s = S s) (e0 : S' 0 0 = S 0 0) (e11 : S' 11 = S 11) (e13 : S' 13 = S 13) (e15 : S' 15 = S 15) (e16 : S' 16 = S 16) : agrB S' a = agrB S a := by
  unfold agrB
  rw [e 42 (by omega) (by omega), e 43 (by omega) (by omega), e0, e11, e13, e15, e16]
theorem FLO_congr (h : FLO S F) (e21 : S' 21 = S 21) (e23 : S' 23 = S 23) : FLO S' F := by
  unfold FLO
  rw [e21, e23]
  exact h
/-- a step that touches none of the machines -/
theorem INV.frame (hst : st < 1000) (h : INV st n na g pa pv S F) (e : ∀ s k, s ≠ 4 → s ≠ 6 → s ≠ 37 → s ≠ 39 → s ≠ 40 → s < 48 → S' s k = S s k) (e4 : S' 4 0 = S 4 0 + 1) (h6 : ∀ k, k < 25 → S' 6 k = 0 ∨ S' 6 k = 1) (hm : MSX (MOK n (st + 1) (tmS S) g (blS S) pa pv) S' F') (hF : FLO S F → FLO S F') : INV (st + 1) n na g pa pv S' F' := by
  obtain ⟨⟨a1, a2, a3, s, a4, a5⟩, hM, hC, hR, hP, hZ, hE, ⟨hH1, hH2, hH3⟩, _, hL⟩ := h
  have ef : ∀ s, s ≠ 4 → s ≠ 6 → s ≠ 37 → s ≠ 39 → s ≠ 40 → s < 48 → S' s = S s := fun s q1 q2 q3 q4 q5 q6 => funext fun k => e s k q1 q2 q3 q4 q5 q6
  have eA : ∀ s, 41 ≤ s → s ≤ 47 → S' s = S s := fun s q1 q2 => ef s (by omega) (by omega) (by omega) (by omega) (by omega) (by omega)
  have eP : ∀ s, 27 ≤ s → s ≤ 36 → S' s = S s := fun s q1 q2 => ef s (by omega) (by omega) (by omega) (by omega) (by omega) (by omega)
  have eR : ∀ s, 9 ≤ s → s ≤ 21 → S' s = S s := fun s q1 q2 => ef s (by omega) (by omega) (by omega) (by omega) (by omega) (by omega)
  have e1 : tmS S' = tmS S := by
    funext i
    unfold tmS
    rw [eR 9 (by omega) (by omega)]
  have e2 : blS S' = blS S := by
    funext d a
    unfold blS
    rw [eP 27 (by omega) (by omega)]
  have s4 : S' 4 0 = Int32.ofNat (s + 1) := by rw [e4, a4, o_addn]
  refine ⟨⟨?_, a2, ?_, s + 1, s4, by omega⟩, fun m hm => MAC_congr (hM m hm) ?_ ?_ ?_ ?_ ?_ ?_ ?_, fun k hk => ⟨h6 k hk, ?_⟩, RFT_congr hR eR, fun d hd => PAX_congr (hP d hd) eP, CHZ_congr hZ eP, fun t x hx => hasA_congr (hE t x hx) eA, ⟨HIo_congr hH1 eA, fun a ha => ?_, fun a ha => ?_⟩, ?_, FLO_congr (hF hL) ?_ ?_⟩
  · rw [ef 0 (by omega) (by omega) (by omega) (by omega) (by omega) (by omega)]; exact a1
  · rw [ef 47 (by omega) (by omega) (by omega) (by omega) (by omega) (by omega)]; exact a3
  · rw [ef 5 (by omega) (by omega) (by omega) (by omega) (by omega) (by omega)]
  · rw [ef 9 (by omega) (by omega) (by omega) (by omega) (by omega) (by omega)]
  · rw [ef 11 (by omega) (by omega) (by omega) (by omega) (by omega) (by omega)]
  · rw [ef 12 (by omega) (by omega) (by omega) (by omega) (by omega) (by omega)]
  · rw [ef 13 (by omega) (by omega) (by omega) (by omega) (by omega) (by omega)]
  · rw [ef 18 (by omega) (by omega) (by omega) (by omega) (by omega) (by omega)]
  · rw [ef 23 (by omega) (by omega) (by omega) (by omega) (by omega) (by omega)]
  · rw [eR 21 (by omega) (by omega)]; exact (hC k hk).2
  · rw [eA 45 (by omega) (by omega), s4]
    have := hH2 a ha
    rw [a4, o_i _ (by omega)] at this
    rw [o_i _ (by omega)]
    omega
  · rw [eA 41 (by omega) (by omega), eA 46 (by omega) (by omega), agrB_congr eA (by rw [ef 0 (by omega) (by omega) (by omega) (by omega) (by omega) (by omega)]) (eR 11 (by omega) (by omega)) (eR 13 (by omega) (by omega)) (eR 15 (by omega) (by omega)) (eR 16 (by omega) (by omega))]
    exact hH3 a ha
  · rw [e1, e2]; exact hm
  · exact eR 21 (by omega) (by omega)
  · exact ef 23 (by omega) (by omega) (by omega) (by omega) (by omega) (by omega)
theorem INV.msx1 (h : INV st n na g pa pv S F) : MSX (MOK n (st + 1) (tmS S) g (blS S) pa pv) S F := h.2.2.2.2.2.2.2.2.1.mono (fun _ _ => MOK.mono (Nat.le_succ _) yX.refl (fun _ _ => zX.refl))
theorem inv_cut (hst : st < 1000) (h : INV st n na g pa pv S F) {a b : Nat} : INV (st + 1) n na g pa pv (cutS (stepS S) a b) F := by
  have hC := h.2.2.1
  refine h.frame hst (fun s k h4 h6 h37 h39 h40 _ => ?_) ?_ (fun k hk => ?_) (h.msx1.same rfl rfl rfl) id
  · unfold cutS stepS
    rw [u2_ne (Or.inl h6), u2_ne (Or.inl h6), u2_ne (Or.inl h4)]
  · unfold cutS
    rw [u2_ne (by omega), u2_ne (by omega)]; exact u2_eq
  · unfold cutS
    by_cases c1 : k = 5 * b + a
    · rw [c1, u2_eq]
      unfold b2i
      split
      · exact Or.inr rfl
      · exact Or.inl rfl
    · rw [u2_ne (Or.inr c1)]
      by_cases c2 : k = 5 * a + b
      · rw [c2, u2_eq]
        unfold b2i
        split
        · exact Or.inr rfl
        · exact Or.inl rfl
      · rw [u2_ne (Or.inr c2)]
        exact (hC k hk).1
/-- a step that changes floats alone -/
theorem INV.floats (hst : st < 1000) (h : INV st n na g pa pv S F) (h38 : F' 38 = F 38) (hF : FLO S F → FLO S F') : INV (st + 1) n na g pa pv (stepS S) F' :=
  h.frame hst (fun s k h4 _ _ _ _ _ => u2_ne (Or.inl h4)) u2_eq (fun k hk => (h.2.2.1 k hk).1) (h.msx1.same rfl rfl h38) hF
theorem inv_rate (hst : st < 1000) (h : INV st n na g pa pv S F) {m : Nat} {v : UInt32} (hv : fpQ v) : INV (st + 1) n na g pa pv (stepS S) (u2 F 8 m v) := by
  refine h.floats hst rfl (fun hL => ?_)
  obtain ⟨f1, f2, f3, f4, f5, f6⟩ := hL
  refine ⟨f1, f2, f3, fun i hi => ⟨(f4 i hi).1, ?_⟩, f5, f6⟩
  by_cases c : i = m
  · subst c; rw [u2_eq]; exact hv
  · rw [u2_ne (Or.inr c)]; exact (f4 i hi).2
theorem inv_spans (hst : st < 1000) (h : INV st n na g pa pv S F) {v w : UInt32} (hv : fpQ v) (hw : fpQ (FP.fsub FP.fconst1 w)) : INV (st + 1) n na g pa pv (stepS S) (u2 (u2 F 2 0 v) 3 0 w) := by
  refine h.floats hst rfl (fun hL => ?_)
  obtain ⟨f1, f2, f3, f4, f5, f6⟩ := hL
  exact ⟨f1, hv, hw, f4, f5, f6⟩
theorem passF_ne {x : UInt32} {s k : Nat} (h1 : s ≠ 1) (h7 : s ≠ 7) : ∀ j, passF F x j s k = F s k := by
  intro j
  induction j with
  | zero => exact u2_ne (Or.inl h1)
  | succ j ih => exact (u2_ne (Or.inl h7)).trans ih
theorem inv_pass (hst : st < 1000) (h : INV st n na g pa pv S F) {x : UInt32} (hx : fpQ x) : INV (st + 1) n na g pa pv (stepS S) (passF F x n) := by
  have n5 : n ≤ 5 := by have := h.1.2.1; omega
  refine h.floats hst (funext fun k => passF_ne (by decide) (by decide) n) (fun hL => ?_)
  obtain ⟨f1, f2, f3, f4, f5, f6⟩ := hL
  have p1 : ∀ j, passF F x j 1 0 = FP.fadd (F 1 0) x := by
    intro j
    induction j with
    | zero => exact u2_eq
    | succ j ih => exact (u2_ne (by omega)).trans ih
  have p7 : ∀ j, j ≤ 5 → ∀ i, i < 5 → fpF (passF F x j 7 i) := by
    intro j
    induction j with
    | zero =>
      intro _ i hi
      have : passF F x 0 7 i = F 7 i := u2_ne (by omega)
      rw [this]; exact (f4 i hi).1
    | succ j ih =>
      intro hj i hi
      show fpF (u2 (passF F x j) 7 j (FP.fadd (F 7 j) (FP.fmul x (F 8 j))) 7 i)
      by_cases c : i = j
      · subst c
        rw [u2_eq]
        exact PF_add (f4 i hi).1 (PF_mul hx (f4 i hi).2)
      · rw [u2_ne (Or.inr c)]; exact ih (by omega) i hi
  refine ⟨?_, ?_, ?_, fun i hi => ⟨p7 n n5 i hi, ?_⟩, fun k hk hz => ?_, fun k hk hz => ?_⟩
  · rw [p1]; exact PF_add f1 hx.pf
  · rw [passF_ne (by decide) (by decide)]; exact f2
  · rw [passF_ne (by decide) (by decide)]; exact f3
  · rw [passF_ne (by decide) (by decide)]; exact (f4 i hi).2
  · rw [passF_ne (by decide) (by decide)]; exact f5 k hk hz
  · rw [passF_ne (by decide) (by decide)]; exact f6 k hk hz
theorem leaveS_ne {p s k : Nat} (h37 : s ≠ 37) (h39 : s ≠ 39) : leaveS S p s k = S s k := by
  unfold leaveS
  rw [if_neg (fun w => h37 w.1), if_neg (fun w => h39 w.1)]
theorem inv_lose (hst : st < 1000) (h : INV st n na g pa pv S F) {p q : Nat} (hq : S 39 0 = Int32.ofNat q) (hq60 : q ≤ 60) (hp : p < q) : INV (st + 1) n na g pa pv (leaveS (stepS S) p) (leaveF (stepS S) F p) := by
  have hm : MSX (MOK n (st + 1) (tmS S) g (blS S) pa pv) (stepS S) F := h.msx1.same rfl rfl rfl
  refine h.frame hst (fun s k h4 h6 h37 h39 h40 _ => ?_) ?_ (fun k hk => (h.2.2.1 k hk).1) (hm.leave MOK_cg hq hq60 hp) (fun hL => ?_)
  · rw [leaveS_ne h37 h39]; exact u2_ne (Or.inl h4)
  · rw [leaveS_ne (by decide) (by decide)]; exact u2_eq
  · obtain ⟨f1, f2, f3, f4, f5, f6⟩ := hL
    exact ⟨f1, f2, f3, f4, f5, f6⟩
theorem inv_twice (hst : st < 1000) (h : INV st n na g pa pv S F) {p q : Nat} (hq : S 39 0 = Int32.ofNat q) (hq60 : q ≤ 60) (hp : p < q) : INV (st + 1) n na g pa pv (twiceS (stepS S) p) (pushF (stepS S) F (F 38 p)) := by
  have hm : MSX (MOK n (st + 1) (tmS S) g (blS S) pa pv) (stepS S) F := h.msx1.same rfl rfl rfl
  obtain ⟨q', h1, h2, h3⟩ := id hm
  have e : q' = q := by
    have h1' : S 39 0 = Int32.ofNat q' := h1
    have e1 := nt_of h1' (by omega)
    have e2 := nt_of hq (by omega)
    omega
  subst e
  refine h.frame hst (fun s k h4 h6 h37 h39 h40 _ => ?_) ?_ (fun k hk => (h.2.2.1 k hk).1) (hm.push MOK_cg (h3 p hp)) (fun hL => ?_)
  · unfold twiceS
    rw [pushS_ne h37 h39]; exact u2_ne (Or.inl h4)
  · unfold twiceS
    rw [pushS_ne (by decide) (by decide)]; exact u2_eq
  · obtain ⟨f1, f2, f3, f4, f5, f6⟩ := hL
    exact ⟨f1, f2, f3, f4, f5, f6⟩
/-- an entry of what a leader sends -/
theorem apW_e {m o k r : Nat} (hk : k < manyN S m o) (hr : r < 4) : apW S m o (10 + r + 4 * k) = S (14 + r) (30 * m + nt (S 19 (5 * m + o)) + k) := by
  unfold apW
  rw [if_neg (by omega), if_neg (by omega), if_neg (by omega), if_neg (by omega), if_neg (by omega), if_neg (by omega), if_neg (by omega), if_neg (by omega)]
  unfold entW
  rw [if_pos (by omega)]
  have e1 : (10 + r + 4 * k - 10) % 4 = r := by omega
  have e2 : (10 + r + 4 * k - 10) / 4 = k := by omega
  rw [e1, e2]
theorem inv_beat (hst : st < 1000) (h : INV st n na g pa pv S F) {m : Nat} (hm : m < n) (hlead : S 11 m = 2) : INV (st + 1) n na g pa pv (beatP (stepS S, F) m n).1 (beatP (stepS S, F) m n).2 := by
  have n5 : n ≤ 5 := by have := h.1.2.1; omega
  obtain ⟨_, hM, _, hR, _, _, _, _, _, hL⟩ := id h
  obtain ⟨⟨l, hl, hl30, cm, hcm, hcl⟩, ⟨t, ht, htst⟩, _⟩ := hM m (by omega)
  obtain ⟨hI, _, _, hLE, hCI, hEN⟩ := hR
  obtain ⟨hw, hsup, _, _⟩ := hLE m hm hlead
  have etm : tmS S m = t := nt_of ht (by omega)
  have elg : lgS S m = yL g t := by
    rw [etm] at hw
    exact hI.2.2.2.2.1 t m hw etm
  have elen : (lgS S m).length = l := by rw [lgS_len]; exact nt_of hl (by omega)
  have hmx : MSX (MOK n (st + 1) (tmS S) g (blS S) pa pv) (stepS S) F := h.msx1.same rfl rfl rfl
  have hall : MSX (MOK n (st + 1) (tmS S) g (blS S) pa pv) (beatP (stepS S, F) m n).1 (beatP (stepS S, F) m n).2 := by
    refine MSX.all (P := (stepS S, F)) MOK_cg hmx n (fun o ho hom => ?_)
    obtain ⟨p, hp, hpl⟩ := hsup o ho hom
    have enp : nt (S 19 (5 * m + o)) = p := nt_of hp (by omega)
    have emn : manyN (stepS S) m o = min 3 (l - p) := by
      show min 3 (nt (S 12 m) - nt (S 19 (5 * m + o))) = _
      rw [enp, nt_of hl (by omega)]
    rw [elen] at hpl
    refine ⟨2, m, o, rfl, by omega, rfl, hm, rfl, ho, fun z => hom z.symm, (hL.2.2.2.1 m (by omega)).1, fun _ => ⟨t, ht, by omega, by omega, fun z => absurd z (by decide), fun z => absurd z (by decide), fun _ => ⟨by rw [etm] at hw; exact hw, p, min 3 (l - p), cm, hp, ?_, by omega, by rw [← elg, elen]; omega, ?_, fun k hk => ?_, hcm, by omega, ?_⟩, fun z => absurd z (by decide)⟩, fun z => absurd z (by decide)⟩
    · show Int32.ofNat (manyN (stepS S) m o) = _
      rw [emn]
    · show tmAt (stepS S) m (S 19 (5 * m + o)) = _
      rw [hp, ← elg]
      exact tm_lg (S := stepS S) hl hl30 (by omega)
    · rw [← elg, lgS_get (by rw [nt_of hl (by omega)]; omega)]
      have f := fun r hr => apW_e (S := stepS S) (m := m) (o := o) (k := k) (r := r) (by rw [emn]; exact hk) hr
      have enp' : nt (stepS S 19 (5 * m + o)) = p := enp
      rw [enp'] at f
      have f0 := f 0 (by omega)
      have f1 := f 1 (by omega)
      have f2 := f 2 (by omega)
      have f3 := f 3 (by omega)
      have g0 : apW (stepS S) m o (10 + 4 * k) = S 14 (30 * m + p + k) := f0
      have g1 : apW (stepS S) m o (11 + 4 * k) = S 15 (30 * m + p + k) := f1
      have g2 : apW (stepS S) m o (12 + 4 * k) = S 16 (30 * m + p + k) := f2
      have g3 : apW (stepS S) m o (13 + 4 * k) = S 17 (30 * m + p + k) := f3
      rw [g0, g1, g2, g3, Nat.add_assoc]
    · have := (hCI m hm).cov
      rw [etm, nt_of hcm (by omega)] at this
      exact this
  refine h.frame hst (fun s k h4 h6 h37 h39 h40 _ => ?_) ?_ (fun k hk => ?_) hall (fun hL => ?_)
  · unfold beatP
    rw [toAll_ne h37 h39 h40]; exact u2_ne (Or.inl h4)
  · unfold beatP
    rw [toAll_ne (by decide) (by decide) (by decide)]; exact u2_eq
  · unfold beatP
    rw [toAll_ne (by decide) (by decide) (by decide)]; exact (h.2.2.1 k hk).1
  · obtain ⟨f1, f2, f3, f4, f5, f6⟩ := hL
    unfold FLO beatP
    rw [toAll_neF (by decide), toAll_neF (by decide), toAll_neF (by decide)]
    refine ⟨f1, f2, f3, fun i hi => ?_, fun k hk hz => ?_, fun k hk hz => ?_⟩
    · rw [toAll_neF (by decide), toAll_neF (by decide)]; exact f4 i hi
    · rw [toAll_neF (by decide)]; exact f5 k hk hz
    · rw [toAll_neF (by decide)]; exact f6 k hk hz
end FRAME
