/-! ===== constructors: what was there is there, what is new is nought ===== -/
def FRX (h h' : HP) (x : Nat → Prop) : Prop := (hN h ≤ hN h') ∧ (∀ f b, b < hN h → (f ≠ 800 ∨ ¬ x b) → hI h' f b = hI h f b) ∧ (∀ f b, b < hN h → hF h' f b = hF h f b) ∧ (∀ f b, b < hN h → ¬ x b → hR h' f b = hR h f b) ∧ (∀ b j, b < hN h → hAI h' b j = hAI h b j) ∧ (∀ b j, b < hN h → hAF h' b j = hAF h b j) ∧ (∀ b j, b < hN h → ¬ x b → hAR h' b j = hAR h b j) ∧ (∀ b, b < hN h → hK h' b = hK h b) ∧ (∀ b, b < hN h → hL h' b = hL h b) ∧ (∀ f b, hN h ≤ b → b < hN h' → f ≠ 800 → hI h' f b = 0) ∧ (∀ f b, hN h ≤ b → b < hN h' → hF h' f b = 0) ∧ (∀ b j, hN h ≤ b → b < hN h' → hAI h' b j = 0) ∧ (∀ b j, hN h ≤ b → b < hN h' → hAF h' b j = 0) ∧ (hC h' + hN h = hC h + hN h') ∧ (hZ h' + 17000 * hN h ≤ hZ h + 17000 * hN h') ∧ (∀ b, b < hN h → hAL h' b = hAL h b) ∧ (∀ b, b < hN h → hAD h' b = hAD h b)
section FRXS
variable {h h' h'' : HP} {x y : Nat → Prop} {a f v j : Nat} {d : Nat} {Q : Out → HP → Prop}
theorem FRX.le (q : FRX h h' x) : hN h ≤ hN h' := q.1
theorem FRX.I (q : FRX h h' x) : ∀ f b, b < hN h → (f ≠ 800 ∨ ¬ x b) → hI h' f b = hI h f b := q.2.1
theorem FRX.F (q : FRX h h' x) : ∀ f b, b < hN h → hF h' f b = hF h f b := q.2.2.1
theorem FRX.R (q : FRX h h' x) : ∀ f b, b < hN h → ¬ x b → hR h' f b = hR h f b := q.2.2.2.1
theorem FRX.AI (q : FRX h h' x) : ∀ b j, b < hN h → hAI h' b j = hAI h b j := q.2.2.2.2.1
theorem FRX.AF (q : FRX h h' x) : ∀ b j, b < hN h → hAF h' b j = hAF h b j := q.2.2.2.2.2.1
theorem FRX.AR (q : FRX h h' x) : ∀ b j, b < hN h → ¬ x b → hAR h' b j = hAR h b j := q.2.2.2.2.2.2.1
theorem FRX.K (q : FRX h h' x) : ∀ b, b < hN h → hK h' b = hK h b := q.2.2.2.2.2.2.2.1
theorem FRX.L (q : FRX h h' x) : ∀ b, b < hN h → hL h' b = hL h b := q.2.2.2.2.2.2.2.2.1
theorem FRX.nI (q : FRX h h' x) : ∀ f b, hN h ≤ b → b < hN h' → f ≠ 800 → hI h' f b = 0 := q.2.2.2.2.2.2.2.2.2.1
theorem FRX.nF (q : FRX h h' x) : ∀ f b, hN h ≤ b → b < hN h' → hF h' f b = 0 := q.2.2.2.2.2.2.2.2.2.2.1
theorem FRX.nAI (q : FRX h h' x) : ∀ b j, hN h ≤ b → b < hN h' → hAI h' b j = 0 := q.2.2.2.2.2.2.2.2.2.2.2.1
theorem FRX.nAF (q : FRX h h' x) : ∀ b j, hN h ≤ b → b < hN h' → hAF h' b j = 0 := q.2.2.2.2.2.2.2.2.2.2.2.2.1
theorem FRX.C (q : FRX h h' x) : hC h' + hN h = hC h + hN h' := q.2.2.2.2.2.2.2.2.2.2.2.2.2.1
theorem FRX.Z (q : FRX h h' x) : hZ h' + 17000 * hN h ≤ hZ h + 17000 * hN h' := q.2.2.2.2.2.2.2.2.2.2.2.2.2.2.1
theorem FRX.AL (q : FRX h h' x) : ∀ b, b < hN h → hAL h' b = hAL h b := q.2.2.2.2.2.2.2.2.2.2.2.2.2.2.2.1
theorem FRX.AD (q : FRX h h' x) : ∀ b, b < hN h → hAD h' b = hAD h b := q.2.2.2.2.2.2.2.2.2.2.2.2.2.2.2.2
theorem FRX.refl : FRX h h x := ⟨Nat.le_refl _, fun _ _ _ _ => rfl, fun _ _ _ => rfl, fun _ _ _ _ => rfl, fun _ _ _ => rfl, fun _ _ _ => rfl, fun _ _ _ _ => rfl, fun _ _ => rfl, fun _ _ => rfl, fun _ b h1 h2 => by omega, fun _ b h1 h2 => by omega, fun b _ h1 h2 => by omega, fun b _ h1 h2 => by omega, rfl, Nat.le_refl _, fun _ _ => rfl, fun _ _ => rfl⟩
theorem FRX.trans (p : FRX h h' x) (q : FRX h' h'' y) (w : ∀ b, b < hN h → y b → x b) : FRX h h'' x := by
  have l1 := p.le
  have l2 := q.le
  have z1 := p.Z
  have z2 := q.Z
  have c1 := p.C
  have c2 := q.C
  refine ⟨by omega, fun f b hb hx => ?_, fun f b hb => ?_, fun f b hb hx => ?_, fun b j hb => ?_, fun b j hb => ?_, fun b j hb hx => ?_, fun b hb => ?_, fun b hb => ?_, fun f b h1 h2 h3 => ?_, fun f b h1 h2 => ?_, fun b j h1 h2 => ?_, fun b j h1 h2 => ?_, by omega, by omega, fun b hb => (q.AL b (by omega)).trans (p.AL b hb), fun b hb => (q.AD b (by omega)).trans (p.AD b hb)⟩
  · exact (q.I f b (by omega) (hx.imp id (fun n y => n (w b hb y)))).trans (p.I f b hb hx)
  · exact (q.F f b (by omega)).trans (p.F f b hb)
  · exact (q.R f b (by omega) (fun y => hx (w b hb y))).trans (p.R f b hb hx)
  · exact (q.AI b j (by omega)).trans (p.AI b j hb)
  · exact (q.AF b j (by omega)).trans (p.AF b j hb)
  · exact (q.AR b j (by omega) (fun y => hx (w b hb y))).trans (p.AR b j hb hx)
  · exact (q.K b (by omega)).trans (p.K b hb)
  · exact (q.L b (by omega)).trans (p.L b hb)
  · by_cases c : b < hN h'
    · exact (q.I f b c (Or.inl h3)).trans (p.nI f b h1 c h3)
    · exact q.nI f b (by omega) h2 h3
  · by_cases c : b < hN h'
    · exact (q.F f b c).trans (p.nF f b h1 c)
    · exact q.nF f b (by omega) h2
  · by_cases c : b < hN h'
    · exact (q.AI b j c).trans (p.nAI b j h1 c)
    · exact q.nAI b j (by omega) h2
  · by_cases c : b < hN h'
    · exact (q.AF b j c).trans (p.nAF b j h1 c)
    · exact q.nAF b j (by omega) h2
theorem FRX.al {k l z : Nat} (hz : z ≤ 17000) : FRX h (nw h k l z) x := by
  refine ⟨by rw [hN_nw]; omega, fun f b hb _ => nw_I hb, fun f b hb => nw_F hb, fun f b hb _ => nw_R hb, fun b j hb => by rw [nw_AI hb], fun b j hb => by rw [nw_AF hb], fun b j hb _ => by rw [nw_AR hb], fun b hb => nw_K hb, fun b hb => nw_L hb, fun f b h1 h2 _ => ?_, fun f b h1 h2 => ?_, fun b j h1 h2 => ?_, fun b j h1 h2 => ?_, by rw [hC_nw, hN_nw]; omega, by rw [hZ_nw, hN_nw]; omega, fun b hb => nw_AL hb, fun b hb => nw_AD hb⟩
  all_goals rw [hN_nw] at h2
  · exact if_pos (by omega)
  · exact if_pos (by omega)
  · exact if_pos (by omega)
  · exact if_pos (by omega)
theorem FRX.sR (q : FRX h h' x) (ha : x a ∨ hN h ≤ a) : FRX h (sR h' f a v) x := by
  refine ⟨q.le, q.I, q.F, fun f1 b hb hx => ?_, q.AI, q.AF, q.AR, q.K, q.L, q.nI, q.nF, q.nAI, q.nAF, q.C, q.Z, q.AL, q.AD⟩
  rw [hR_sR, if_neg (show ¬ (f1 = f ∧ b = a) from fun w => ha.elim (fun u => hx (w.2 ▸ u)) (fun u => by omega))]
  exact q.R f1 b hb hx
theorem FRX.sAR (q : FRX h h' x) (ha : x a ∨ hN h ≤ a) : FRX h (sAR h' a j v) x := by
  refine ⟨q.le, q.I, q.F, q.R, q.AI, q.AF, fun b j1 hb hx => ?_, q.K, q.L, q.nI, q.nF, q.nAI, q.nAF, q.C, q.Z, q.AL, q.AD⟩
  rw [hAR_sAR, if_neg (show ¬ (b = a ∧ j1 = j) from fun w => ha.elim (fun u => hx (w.1 ▸ u)) (fun u => by omega))]
  exact q.AR b j1 hb hx
theorem FRX.s8 {w : Int32} (q : FRX h h' x) (ha : x a ∨ hN h ≤ a) : FRX h (sI h' 800 a w) x := by
  refine ⟨q.le, fun f b hb hx => ?_, q.F, q.R, q.AI, q.AF, q.AR, q.K, q.L, fun f b h1 h2 h3 => ?_, q.nF, q.nAI, q.nAF, q.C, q.Z, q.AL, q.AD⟩
  · rw [ne_sI (fun w => ?_)]
    · exact q.I f b hb hx
    · rcases ha with u | u
      · exact hx.elim (fun n => n w.1) (fun n => n (w.2 ▸ u))
      · omega
  · rw [ne_sI (fun w => h3 w.1)]
    exact q.nI f b h1 h2 h3
/-- a message -/
theorem w_X9init (h1 : 1 < a) (ha : a < hN h) (hk : hK h a = 9) (k : ∀ h', FRX h h' (fun b => b = a) → hN h' = hN h + 1 → hR h' 909 a = hN h → hK h' (hN h) = 27 → hL h' (hN h) = 3 → (∀ j, hAR h' (hN h) j = 0) → Q (.inl none) h') : WP d mX9_init 0 [some (.ref a)] [] h Q := by
  refine bX9_init_0 ⟨h1, (nw_K ha).trans hk, k _ ((FRX.al (by decide)).sR (Or.inl rfl)) rfl ?_ ?_ ?_ (fun j => ?_)⟩
  · rw [hR_sR, if_pos ⟨rfl, rfl⟩]
  · rw [hK_sR, hK_nw, if_pos rfl]
  · rw [hL_sR, hL_nw, if_pos rfl]
  · rw [hAR_sR, hAR_nw, if_pos rfl]
/-- a message made -/
def MS1 (h : HP) (a : Nat) : Prop := hK h a = 9 ∧ hR h 909 a = a + 1 ∧ hK h (a + 1) = 27 ∧ hL h (a + 1) = 3 ∧ ∀ j, hAR h (a + 1) j = 0
theorem MS1.frx (q : FRX h h' x) (ha : a + 1 < hN h) (x1 : ¬ x a) (x2 : ¬ x (a + 1)) (w : MS1 h a) : MS1 h' a := ⟨(q.K a (by omega)).trans w.1, (q.R 909 a (by omega) x1).trans w.2.1, (q.K _ ha).trans w.2.2.1, (q.L _ ha).trans w.2.2.2.1, fun j => (q.AR _ j ha x2).trans (w.2.2.2.2 j)⟩
theorem w_newM {y : MI} {pc : Nat} {lo : Lo} {st : List Value} (h2 : 2 ≤ hN h) (k : ∀ h', FRX h h' (fun _ => False) → hN h' = hN h + 2 → MS1 h' (hN h) → WP (d + 1) y (pc + 3) lo st h' Q) : WP d mX9_init 0 [some (.ref (hN h))] [] (nw h 9 0 14) (KK d y mX9_init pc lo st Q) := by
  refine w_X9init (by omega) (by rw [hN_nw]; omega) (by rw [hK_nw, if_pos rfl]) ?_
  intro h' q e1 e2 e3 e4 e5
  rw [hN_nw] at e1 e2 e3 e4 e5
  rw [KK_ret]
  refine k h' ((FRX.al (k := 9) (l := 0) (z := 14) (by decide)).trans q (fun b hb w => by omega)) e1 ⟨?_, e2, e3, e4, e5⟩
  rw [q.K _ (by rw [hN_nw]; omega), hK_nw, if_pos rfl]
theorem w_net_45 : ∀ (m j : Nat) (h : HP), j + m = 60 → hN h = 11 + 2 * j → hK h 4 = 10 → hR h 1003 4 = 5 → hK h 5 = 26 → hL h 5 = 60 → (∀ p, p < j → MS1 h (11 + 2 * p) ∧ hAR h 5 p = 11 + 2 * p) → (∀ h', FRX h h' (fun b => b = 5) → hN h' = 131 → (∀ p, p < 60 → MS1 h' (11 + 2 * p) ∧ hAR h' 5 p = 11 + 2 * p) → Q (.inl none) h') → WP (d + 1) mX10_init 45 [some (.ref 4), some (.int (Int32.ofNat j))] [] h Q := by
  intro m
  induction m with
  | zero =>
    intro j h hj hN0 hK4 hR3 hK5 hL5 hp k
    obtain rfl : j = 60 := by omega
    exact bX10_init_45 ⟨fun _ => k h FRX.refl hN0 hp, fun c => absurd (by decide) c⟩
  | succ m ih =>
    intro j h hj hN0 hK4 hR3 hK5 hL5 hp k
    refine bX10_init_45 ⟨fun c => absurd c (fun w => ?_), fun _ => ⟨hK4, by omega, w_newM (by omega) ?_⟩⟩
    · have := Int32.le_iff_toInt_le.mp w
      rw [o_i _ (by omega)] at this
      have e : (60 : Int32).toInt = 60 := by decide
      omega
    · intro h1 q e1 e2
      have k5 : hK h1 5 = 26 := (q.K 5 (by omega)).trans hK5
      have l5 : hL h1 5 = 60 := (q.L 5 (by omega)).trans hL5
      rw [hR3]
      refine bX10_init_63 ⟨by rw [k5]; decide, inA_o l5 (by omega) (by decide), ⟨by omega, by rw [e2.1, k5]; rfl⟩, ?_⟩
      rw [o_c _ (by omega), show Int32.ofNat j + (1 : Int32) = Int32.ofNat (j + 1) from o_addn _ _]
      have f1 : FRX h (sAR h1 5 j (hN h)) (fun b => b = 5) := ((FRX.refl (x := fun b => b = 5)).trans q (fun b _ w => w.elim)).sAR (Or.inl rfl)
      refine ih (j + 1) _ (by omega) (by rw [hN_sAR]; omega) (by rw [f1.K 4 (by omega)]; exact hK4) (by rw [f1.R _ 4 (by omega) (by decide)]; exact hR3) k5 l5 (fun p hpj => ?_) (fun h2 q2 e3 e4 => ?_)
      · by_cases c : p = j
        · subst c
          refine ⟨?_, ?_⟩
          · rw [← hN0]
            exact ⟨e2.1, e2.2.1, e2.2.2.1, e2.2.2.2.1, fun i => by rw [hAR_sAR, if_neg (by omega)]; exact e2.2.2.2.2 i⟩
          · rw [hAR_sAR, if_pos ⟨rfl, rfl⟩, hN0]
        · obtain ⟨w1, w2⟩ := hp p (by omega)
          refine ⟨w1.frx f1 (by omega) (by omega) (by omega), ?_⟩
          rw [hAR_sAR, if_neg (fun w => c w.2), q.AR 5 p (by omega) (fun w => w)]
          exact w2
      · exact k h2 (f1.trans q2 (fun b _ w => w)) e3 e4
/-- the net made -/
def NET1 (h : HP) : Prop := hR h 1003 4 = 5 ∧ hR h 1004 4 = 6 ∧ hR h 1005 4 = 7 ∧ hR h 1006 4 = 9 ∧ hK h 5 = 26 ∧ hL h 5 = 60 ∧ hK h 6 = 21 ∧ hL h 6 = 25 ∧ (∀ a, mset a ∨ a = 9 → MS1 h a) ∧ ∀ p, p < 60 → hAR h 5 p = 11 + 2 * p
theorem w_X10init {u : Option Value} (hN0 : hN h = 5) (hk : hK h 4 = 10) (k : ∀ h', FRX h h' (fun b => b = 4) → hN h' = 131 → NET1 h' → Q (.inl none) h') : WP (d + 1) mX10_init 0 [some (.ref 4), u] [] h Q := by
  have N1 : hN (nw h 26 60 60) = 6 := by rw [hN_nw, hN0]
  let hA := sR (nw h 26 60 60) 1003 4 (hN h)
  let hB := sR (nw hA 21 25 25) 1004 4 (hN hA)
  have NA : hN hA = 6 := N1
  have NB : hN hB = 7 := by show hN hA + 1 = 7; omega
  have fA : FRX h hA (fun b => b = 4) := (FRX.al (by decide)).sR (Or.inl rfl)
  have fB0 : FRX hA hB (fun b => b = 4) := (FRX.al (by decide)).sR (Or.inl rfl)
  have fB : FRX h hB (fun b => b = 4) := fA.trans fB0 (fun _ _ w => w)
  have kB : hK hB 4 = 10 := (fB.K 4 (by omega)).trans hk
  have k5A : hK hA 5 = 26 := by show (if 5 = hN h then 26 else _) = 26; rw [if_pos hN0.symm]
  have l5A : hL hA 5 = 60 := by show (if 5 = hN h then 60 else _) = 60; rw [if_pos hN0.symm]
  have k6B : hK hB 6 = 21 := by show (if 6 = hN hA then 21 else _) = 21; rw [if_pos NA.symm]
  have l6B : hL hB 6 = 25 := by show (if 6 = hN hA then 25 else _) = 25; rw [if_pos NA.symm]
  have r3A : hR hA 1003 4 = 5 := by rw [hR_sR, if_pos ⟨rfl, rfl⟩, hN0]
  have r3B : hR hB 1003 4 = 5 := by
    show hR (sR (nw hA 21 25 25) 1004 4 (hN hA)) 1003 4 = 5
    rw [hR_sR, if_neg (by omega), nw_R (by omega)]; exact r3A
  have r4B : hR hB 1004 4 = 6 := by
    show hR (sR (nw hA 21 25 25) 1004 4 (hN hA)) 1004 4 = 6
    rw [hR_sR, if_pos ⟨rfl, rfl⟩, NA]
  refine bX10_init_0 ⟨by decide, (nw_K (by omega)).trans hk, (nw_K (by rw [NA]; omega)).trans ((fA.K 4 (by omega)).trans hk), ?_⟩
  show 1 < hN hB ∧ _
  refine ⟨by omega, ?_⟩
  show WP d mX9_init 0 [some (.ref (hN hB))] [] (nw hB 9 0 14) (KK d mX10_init mX9_init 26 [some (.ref 4), u] [.ref (hN hB), .ref 4] Q)
  refine w_newM (by omega) ?_
  intro hD qD nD mD
  have mD' : MS1 hD 7 := by rw [← NB]; exact mD
  rw [NB] at nD ⊢
  refine bX10_init_29 ⟨(qD.K 4 (by omega)).trans kB, by omega, ?_⟩
  have fD : FRX hB (sR hD 1005 4 7) (fun b => b = 4) := ((FRX.refl (x := fun b => b = 4)).trans qD (fun _ _ w => w.elim)).sR (Or.inl rfl)
  have e9 : hN hD = hN (sR hD 1005 4 7) := rfl
  rw [e9]
  refine w_newM (by rw [← e9]; omega) ?_
  intro hE qE nE mE
  rw [← e9, nD] at nE mE ⊢
  rw [show (7 : Nat) + 2 = 9 from rfl] at mE ⊢
  refine bX10_init_40 ⟨(qE.K 4 (by rw [← e9]; omega)).trans ((fD.K 4 (by omega)).trans kB), ?_⟩
  have fE : FRX hB (sR hE 1006 4 9) (fun b => b = 4) := (fD.trans qE (fun _ _ w => w.elim)).sR (Or.inl rfl)
  have m7 : MS1 (sR hE 1006 4 9) 7 := by
    have q7 : FRX hD (sR hE 1006 4 9) (fun b => b = 4) := (((FRX.refl (x := fun b => b = 4)).sR (Or.inl rfl)).trans qE (fun _ _ w => w.elim)).sR (Or.inl rfl)
    exact mD'.frx q7 (by omega) (by decide) (by decide)
  have m9 : MS1 (sR hE 1006 4 9) 9 := ⟨mE.1, by rw [hR_sR, if_neg (by omega)]; exact mE.2.1, mE.2.2.1, mE.2.2.2.1, mE.2.2.2.2⟩
  have z0 : (0 : Int32) = Int32.ofNat 0 := rfl
  rw [z0]
  refine w_net_45 60 0 _ rfl (by rw [hN_sR]; omega) ((fE.K 4 (by omega)).trans kB) ?_ ((fE.K 5 (by omega)).trans ((fB0.K 5 (by omega)).trans k5A)) ((fE.L 5 (by omega)).trans ((fB0.L 5 (by omega)).trans l5A)) (fun p hp => absurd hp (by omega)) ?_
  · rw [hR_sR, if_neg (by omega), qE.R _ 4 (by rw [← e9]; omega) (fun w => w), hR_sR, if_neg (by omega), qD.R _ 4 (by omega) (fun w => w)]
    exact r3B
  · intro h' q n' hp
    have nE' : hN (sR hE 1006 4 9) = 11 := by rw [hN_sR]; omega
    refine k h' ((fB.trans fE (fun _ _ w => w)).trans q (fun b hb w => by omega)) n' ⟨?_, ?_, ?_, ?_, ?_, ?_, ?_, ?_, fun a ha => ?_, fun p hp' => (hp p hp').2⟩
    · rw [q.R _ 4 (by omega) (by decide), hR_sR, if_neg (by omega), qE.R _ 4 (by rw [← e9]; omega) (fun w => w), hR_sR, if_neg (by omega), qD.R _ 4 (by omega) (fun w => w)]
      exact r3B
    · rw [q.R _ 4 (by omega) (by decide), hR_sR, if_neg (by omega), qE.R _ 4 (by rw [← e9]; omega) (fun w => w), hR_sR, if_neg (by omega), qD.R _ 4 (by omega) (fun w => w)]
      exact r4B
    · rw [q.R _ 4 (by omega) (by decide), hR_sR, if_neg (by omega), qE.R _ 4 (by rw [← e9]; omega) (fun w => w), hR_sR, if_pos ⟨rfl, rfl⟩]
    · rw [q.R _ 4 (by omega) (by decide), hR_sR, if_pos ⟨rfl, rfl⟩]
    · exact (q.K 5 (by omega)).trans ((fE.K 5 (by omega)).trans ((fB0.K 5 (by omega)).trans k5A))
    · exact (q.L 5 (by omega)).trans ((fE.L 5 (by omega)).trans ((fB0.L 5 (by omega)).trans l5A))
    · exact (q.K 6 (by omega)).trans ((fE.K 6 (by omega)).trans k6B)
    · exact (q.L 6 (by omega)).trans ((fE.L 6 (by omega)).trans l6B)
    · rcases ha with (rfl | ⟨o, ho, rfl⟩) | rfl
      · exact m7.frx q (by omega) (by decide) (by decide)
      · exact (hp o ho).1
      · exact m9.frx q (by omega) (by decide) (by decide)
end FRXS
