/-! ===== constructors: machines and the history ===== -/
section INI2
variable {h h' : HP} {x : Nat → Prop} {A : Nat} {d : Nat} {Q : Out → HP → Prop}
theorem FRX.n {k l z : Nat} (q : FRX h h' x) (hz : z ≤ 17000) : FRX h (nw h' k l z) x := q.trans (FRX.al (x := fun _ => False) hz) (fun _ _ w => w.elim)
theorem w_ch_41 (h1 : 1 < A) {i : Int32} : ∀ (m j : Nat) (h : HP), j + m = 4 → hN h = A + 8 + j → hK h A = 8 → hR h 803 A = A + 7 → hK h (A + 7) = 28 → hL h (A + 7) = 4 → (∀ c, c < j → hAR h (A + 7) c = A + 8 + c ∧ hK h (A + 8 + c) = 2) → (∀ h', FRX h h' (fun b => b = A + 7) → hN h' = A + 12 → (∀ c, c < 4 → hAR h' (A + 7) c = A + 8 + c ∧ hK h' (A + 8 + c) = 2) → Q (.inl none) h') → WP (d + 1) mX8_init 41 [some (.ref A), some (.int i), some (.int (Int32.ofNat j))] [] h Q := by
  intro m
  induction m with
  | zero =>
    intro j h hj hN0 hKA hR3 hK7 hL7 hp k
    obtain rfl : j = 4 := by omega
    exact bX8_init_41 ⟨fun _ => k h FRX.refl hN0 hp, fun c => absurd (by decide) c⟩
  | succ m ih =>
    intro j h hj hN0 hKA hR3 hK7 hL7 hp k
    refine bX8_init_41 ⟨fun c => absurd c (fun w => ?_), fun _ => ⟨hKA, by omega, bX2_init_0 ⟨by omega, ?_⟩⟩⟩
    · have := Int32.le_iff_toInt_le.mp w
      rw [o_i _ (by omega)] at this
      have e : (4 : Int32).toInt = 4 := by decide
      omega
    · rw [KK_ret, hR3]
      have k7 : hK (nw h 2 0 10) (A + 7) = 28 := (nw_K (by omega)).trans hK7
      have l7 : hL (nw h 2 0 10) (A + 7) = 4 := (nw_L (by omega)).trans hL7
      have kn : hK (nw h 2 0 10) (hN h) = 2 := by rw [hK_nw, if_pos rfl]
      refine bX8_init_58 ⟨by rw [k7]; decide, inA_o l7 (by omega) (by decide), ⟨by omega, by rw [k7, kn]; rfl⟩, ?_⟩
      rw [o_c _ (by omega), show Int32.ofNat j + (1 : Int32) = Int32.ofNat (j + 1) from o_addn _ _]
      have f1 : FRX h (sAR (nw h 2 0 10) (A + 7) j (hN h)) (fun b => b = A + 7) := (FRX.refl.n (by decide)).sAR (Or.inl rfl)
      refine ih (j + 1) _ (by omega) (by rw [hN_sAR, hN_nw]; omega) ((f1.K A (by omega)).trans hKA) ((f1.R _ A (by omega) (by omega)).trans hR3) k7 l7 (fun p hpj => ?_) (fun h2 q2 e3 e4 => ?_)
      · by_cases c : p = j
        · subst c
          refine ⟨?_, ?_⟩
          · rw [hAR_sAR, if_pos ⟨rfl, rfl⟩, hN0]
          · rw [← hN0]; exact kn
        · obtain ⟨w1, w2⟩ := hp p (by omega)
          refine ⟨?_, (f1.K _ (by omega)).trans w2⟩
          rw [hAR_sAR, if_neg (fun w => c w.2), nw_AR (by omega)]
          exact w1
      · exact k h2 (f1.trans q2 (fun b _ w => w)) e3 e4
/-- machine A made -/
def SM1 (h : HP) (A : Nat) (i : Int32) : Prop := hI h 800 A = i ∧ hR h 801 A = A + 1 ∧ hR h 802 A = A + 3 ∧ hR h 803 A = A + 7 ∧ hK h (A + 1) = 7 ∧ hR h 700 (A + 1) = A + 2 ∧ hK h (A + 2) = 27 ∧ hL h (A + 2) = 30 ∧ hK h (A + 3) = 5 ∧ hR h 500 (A + 3) = A + 4 ∧ hR h 501 (A + 3) = A + 5 ∧ hR h 503 (A + 3) = A + 6 ∧ hK h (A + 4) = 20 ∧ hL h (A + 4) = 5 ∧ hK h (A + 5) = 20 ∧ hL h (A + 5) = 5 ∧ hK h (A + 6) = 22 ∧ hL h (A + 6) = 5 ∧ hK h (A + 7) = 28 ∧ hL h (A + 7) = 4
theorem SM1.frx {i : Int32} (q : FRX h h' x) (hA : A + 7 < hN h) (hx : ∀ b, A ≤ b → b < A + 7 → ¬ x b) (w : SM1 h A i) : SM1 h' A i := by
  obtain ⟨a1, a2, a3, a4, a5, a6, a7, a8, a9, b0, b1, b2, b3, b4, b5, b6, b7, b8, b9, c0⟩ := w
  exact ⟨(q.I _ A (by omega) (Or.inr (hx A (by omega) (by omega)))).trans a1, (q.R _ A (by omega) (hx A (by omega) (by omega))).trans a2, (q.R _ A (by omega) (hx A (by omega) (by omega))).trans a3, (q.R _ A (by omega) (hx A (by omega) (by omega))).trans a4, (q.K _ (by omega)).trans a5, (q.R _ _ (by omega) (hx _ (by omega) (by omega))).trans a6, (q.K _ (by omega)).trans a7, (q.L _ (by omega)).trans a8, (q.K _ (by omega)).trans a9, (q.R _ _ (by omega) (hx _ (by omega) (by omega))).trans b0, (q.R _ _ (by omega) (hx _ (by omega) (by omega))).trans b1, (q.R _ _ (by omega) (hx _ (by omega) (by omega))).trans b2, (q.K _ (by omega)).trans b3, (q.L _ (by omega)).trans b4, (q.K _ (by omega)).trans b5, (q.L _ (by omega)).trans b6, (q.K _ (by omega)).trans b7, (q.L _ (by omega)).trans b8, (q.K _ (by omega)).trans b9, (q.L _ (by omega)).trans c0⟩
theorem FRX.mono {y : Nat → Prop} (q : FRX h h' y) (w : ∀ b, b < hN h → y b → x b) : FRX h h' x := (FRX.refl (x := x)).trans q w
theorem w_X7init (h1 : 1 < A) (ha : A < hN h) (hk : hK h A = 7) (k : ∀ h', FRX h h' (fun b => b = A) → hN h' = hN h + 1 → hR h' 700 A = hN h → hK h' (hN h) = 27 → hL h' (hN h) = 30 → Q (.inl none) h') : WP d mX7_init 0 [some (.ref A)] [] h Q := by
  refine bX7_init_0 ⟨h1, (nw_K ha).trans hk, k _ (FRX.sR (FRX.n FRX.refl (by decide)) (Or.inl rfl)) rfl ?_ ?_ ?_⟩
  · rw [hR_sR, if_pos ⟨rfl, rfl⟩]
  · rw [hK_sR, hK_nw, if_pos rfl]
  · rw [hL_sR, hL_nw, if_pos rfl]
theorem w_X5init (h1 : 1 < A) (ha : A < hN h) (hk : hK h A = 5) (k : ∀ h', FRX h h' (fun b => b = A) → hN h' = hN h + 3 → hR h' 500 A = hN h → hR h' 501 A = hN h + 1 → hR h' 503 A = hN h + 2 → hK h' (hN h) = 20 → hL h' (hN h) = 5 → hK h' (hN h + 1) = 20 → hL h' (hN h + 1) = 5 → hK h' (hN h + 2) = 22 → hL h' (hN h + 2) = 5 → Q (.inl none) h') : WP d mX5_init 0 [some (.ref A)] [] h Q := by
  have g : ∀ H, FRX h H (fun b => b = A) → hK H A = 5 := fun H q => (q.K A ha).trans hk
  have f1 : FRX h (sR (nw h 20 5 5) 500 A (hN h)) (fun b => b = A) := FRX.sR (FRX.n FRX.refl (by decide)) (Or.inl rfl)
  have f2 : FRX h (sR (nw (sR (nw h 20 5 5) 500 A (hN h)) 20 5 5) 501 A (hN (sR (nw h 20 5 5) 500 A (hN h)))) (fun b => b = A) := FRX.sR (FRX.n f1 (by decide)) (Or.inl rfl)
  refine bX5_init_0 ⟨h1, g _ (FRX.n FRX.refl (by decide)), g _ (FRX.n f1 (by decide)), g _ (FRX.n f2 (by decide)), k _ (FRX.sR (FRX.n f2 (by decide)) (Or.inl rfl)) rfl ?_ ?_ ?_ ?_ ?_ ?_ ?_ ?_ ?_⟩
  all_goals simp (disch := omega) only [hK_sR, hL_sR, hR_sR, hN_sR, hK_nw, hL_nw, hR_nw, hN_nw, if_neg, Nat.add_assoc]
  all_goals simp
  all_goals omega
theorem w_X8init (h1 : 1 < A) (hN0 : hN h = A + 1) (hk : hK h A = 8) {i : Int32} {u : Option Value} (k : ∀ h', FRX h h' (fun b => b = A) → hN h' = A + 12 → SM1 h' A i → (∀ c, c < 4 → hAR h' (A + 7) c = A + 8 + c ∧ hK h' (A + 8 + c) = 2) → Q (.inl none) h') : WP (d + 1) mX8_init 0 [some (.ref A), some (.int i), u] [] h Q := by
  have go : ∀ H, FRX h H (fun b => b = A) → hN H = A + 8 → SM1 H A i → WP (d + 1) mX8_init 41 [some (.ref A), some (.int i), some (.int (0 : Int32))] [] H Q := by
    intro H fH nH sH
    have z0 : (0 : Int32) = Int32.ofNat 0 := rfl
    rw [z0]
    refine w_ch_41 h1 4 0 H rfl (by omega) ((fH.K A (by omega)).trans hk) sH.2.2.2.1 sH.2.2.2.2.2.2.2.2.2.2.2.2.2.2.2.2.2.2.1 sH.2.2.2.2.2.2.2.2.2.2.2.2.2.2.2.2.2.2.2 (fun c hc => absurd hc (by omega)) ?_
    intro h' q e1 e2
    exact k h' (fH.trans q (fun b hb w => by omega)) e1 (sH.frx q (by omega) (fun b h3 h4 w => by omega)) e2
  refine bX8_init_0 ⟨h1, by omega, w_X7init (by omega) (by rw [hN_nw]; omega) (by rw [hK_nw, if_pos rfl]) ?_⟩
  intro hA qA nA rA kA lA
  rw [hN_nw, hN0] at nA rA kA lA
  have fA : FRX h hA (fun b => b = A) := (FRX.n FRX.refl (by decide)).trans qA (fun b hb w => by omega)
  have kA7 : hK hA (A + 1) = 7 := by
    rw [qA.K _ (by rw [hN_nw]; omega), ← hN0, hK_nw, if_pos rfl]
  rw [KK_ret, hN0]
  refine bX8_init_12 ⟨(fA.K A (by omega)).trans hk, by omega, w_X5init (by omega) (by show _ < hN hA + 1; omega) (by rw [hK_nw, if_pos (by rw [hN_sR])]) ?_⟩
  have f1 : FRX hA (nw (sR hA 801 A (A + 1)) 5 0 6) (fun b => b = A) := FRX.n (FRX.sR FRX.refl (Or.inl rfl)) (by decide)
  intro hB qB nB r0 r1 r2 k0 l0 k1 l1 k2 l2
  have n1 : hN (nw (sR hA 801 A (A + 1)) 5 0 6) = A + 4 := by rw [hN_nw, hN_sR]; omega
  rw [n1] at nB r0 r1 r2 k0 l0 k1 l1 k2 l2
  have nA' : hN hA = A + 3 := by omega
  rw [nA'] at qB r0 r1 r2 ⊢
  have fB : FRX hA hB (fun b => b = A) := f1.trans qB (fun b hb w => by omega)
  rw [KK_ret]
  have kB5 : hK hB (A + 3) = 5 := by
    rw [qB.K _ (by omega), ← nA', hK_nw, if_pos (by rw [hN_sR])]
  have rB1 : hR hB 801 A = A + 1 := by
    rw [qB.R _ A (by omega) (by omega), nw_R (by rw [hN_sR]; omega), hR_sR, if_pos ⟨rfl, rfl⟩]
  have kB8 : hK hB A = 8 := (fB.K A (by omega)).trans ((fA.K A (by omega)).trans hk)
  have g1 : FRX hB (nw (sR hB 802 A (A + 3)) 28 4 4) (fun b => b = A) := FRX.n (FRX.sR FRX.refl (Or.inl rfl)) (by decide)
  have n2 : hN (sR hB 802 A (A + 3)) = A + 7 := by rw [hN_sR]; omega
  have g2 : FRX hB (sR (nw (sR hB 802 A (A + 3)) 28 4 4) 803 A (hN hB)) (fun b => b = A) := FRX.sR g1 (Or.inl rfl)
  have g3 : FRX hB (sI (sR (nw (sR hB 802 A (A + 3)) 28 4 4) 803 A (hN hB)) 800 A i) (fun b => b = A) := FRX.s8 g2 (Or.inl rfl)
  have gA := fB.trans g3 (fun b hb w => w)
  refine bX8_init_23 ⟨kB8, (g1.K A (by omega)).trans kB8, (g2.K A (by omega)).trans kB8, go _ ((fA.trans fB (fun b hb w => w)).trans g3 (fun b hb w => w)) (by show hN hB + 1 = _; omega) ⟨?_, ?_, ?_, ?_, ?_, ?_, ?_, ?_, ?_, ?_, ?_, ?_, ?_, ?_, ?_, ?_, ?_, ?_, ?_, ?_⟩⟩
  · rw [hI_sI, if_pos ⟨rfl, rfl⟩]
  · rw [hR_sI, hR_sR, if_neg (by omega), nw_R (by omega), hR_sR, if_neg (by omega)]; exact rB1
  · rw [hR_sI, hR_sR, if_neg (by omega), nw_R (by omega), hR_sR, if_pos ⟨rfl, rfl⟩]
  · rw [hR_sI, hR_sR, if_pos ⟨rfl, rfl⟩]; omega
  · exact (gA.K _ (by omega)).trans kA7
  · exact (gA.R _ _ (by omega) (by omega)).trans rA
  · exact (gA.K _ (by omega)).trans kA
  · exact (gA.L _ (by omega)).trans lA
  · exact (g3.K _ (by omega)).trans kB5
  · exact (g3.R _ _ (by omega) (by omega)).trans r0
  · exact (g3.R _ _ (by omega) (by omega)).trans r1
  · exact (g3.R _ _ (by omega) (by omega)).trans r2
  · exact (g3.K _ (by omega)).trans k0
  · exact (g3.L _ (by omega)).trans l0
  · exact (g3.K _ (by omega)).trans k1
  · exact (g3.L _ (by omega)).trans l1
  · exact (g3.K _ (by omega)).trans k2
  · exact (g3.L _ (by omega)).trans l2
  · rw [hK_sI, hK_sR, hK_nw, if_pos n2.symm]
  · rw [hL_sI, hL_sR, hL_nw, if_pos n2.symm]
/-- the acts of the history -/
theorem w_his_24 : ∀ (m j : Nat) (h : HP), j + m = 14 → hN h = 136 + j → hK h 133 = 4 → hR h 400 133 = 134 → hK h 134 = 29 → hL h 134 = 14 → (∀ c, c < j → hAR h 134 c = 136 + c ∧ hK h (136 + c) = 0) → (∀ h', FRX h h' (fun b => b = 134) → hN h' = 150 → (∀ c, c < 14 → hAR h' 134 c = 136 + c ∧ hK h' (136 + c) = 0) → Q (.inl none) h') → WP (d + 1) mX4_init 24 [some (.ref 133), some (.int (Int32.ofNat j))] [] h Q := by
  intro m
  induction m with
  | zero =>
    intro j h hj hN0 hKA hR3 hK7 hL7 hp k
    obtain rfl : j = 14 := by omega
    exact bX4_init_24 ⟨fun _ => k h FRX.refl hN0 hp, fun c => absurd (by decide) c⟩
  | succ m ih =>
    intro j h hj hN0 hKA hR3 hK7 hL7 hp k
    refine bX4_init_24 ⟨fun c => absurd c (fun w => ?_), fun _ => ⟨hKA, by omega, bX0_init_0 ⟨by omega, ?_⟩⟩⟩
    · have := Int32.le_iff_toInt_le.mp w
      rw [o_i _ (by omega)] at this
      have e : (14 : Int32).toInt = 14 := by decide
      omega
    · rw [KK_ret, hR3]
      have k7 : hK (nw h 0 0 6) 134 = 29 := (nw_K (by omega)).trans hK7
      have l7 : hL (nw h 0 0 6) 134 = 14 := (nw_L (by omega)).trans hL7
      have kn : hK (nw h 0 0 6) (hN h) = 0 := by rw [hK_nw, if_pos rfl]
      refine bX4_init_42 ⟨by rw [k7]; decide, inA_o l7 (by omega) (by decide), ⟨by omega, by rw [k7, kn]; rfl⟩, ?_⟩
      rw [o_c _ (by omega), show Int32.ofNat j + (1 : Int32) = Int32.ofNat (j + 1) from o_addn _ _]
      have f1 : FRX h (sAR (nw h 0 0 6) 134 j (hN h)) (fun b => b = 134) := (FRX.refl.n (by decide)).sAR (Or.inl rfl)
      refine ih (j + 1) _ (by omega) (by rw [hN_sAR, hN_nw]; omega) ((f1.K 133 (by omega)).trans hKA) ((f1.R _ 133 (by omega) (by omega)).trans hR3) k7 l7 (fun p hpj => ?_) (fun h2 q2 e3 e4 => ?_)
      · by_cases c : p = j
        · subst c
          refine ⟨?_, ?_⟩
          · rw [hAR_sAR, if_pos ⟨rfl, rfl⟩, hN0]
          · rw [← hN0]; exact kn
        · obtain ⟨w1, w2⟩ := hp p (by omega)
          refine ⟨?_, (f1.K _ (by omega)).trans w2⟩
          rw [hAR_sAR, if_neg (fun w => c w.2), nw_AR (by omega)]
          exact w1
      · exact k h2 (f1.trans q2 (fun b _ w => w)) e3 e4
/-- the history made -/
def HS1 (h : HP) : Prop := hR h 400 133 = 134 ∧ hR h 401 133 = 135 ∧ hK h 134 = 29 ∧ hL h 134 = 14 ∧ hK h 135 = 29 ∧ hL h 135 = 14
theorem HS1.frx (q : FRX h h' x) (hA : 135 < hN h) (hx : ¬ x 133) (w : HS1 h) : HS1 h' := by
  obtain ⟨a1, a2, a3, a4, a5, a6⟩ := w
  exact ⟨(q.R _ _ (by omega) hx).trans a1, (q.R _ _ (by omega) hx).trans a2, (q.K _ (by omega)).trans a3, (q.L _ (by omega)).trans a4, (q.K _ (by omega)).trans a5, (q.L _ (by omega)).trans a6⟩
theorem w_X4init (hN0 : hN h = 134) (hk : hK h 133 = 4) {u : Option Value} (k : ∀ h', FRX h h' (fun b => b = 133) → hN h' = 150 → HS1 h' → (∀ c, c < 14 → hAR h' 134 c = 136 + c ∧ hK h' (136 + c) = 0) → Q (.inl none) h') : WP (d + 1) mX4_init 0 [some (.ref 133), u] [] h Q := by
  have go : ∀ H, FRX h H (fun b => b = 133) → hN H = 136 → HS1 H → WP (d + 1) mX4_init 24 [some (.ref 133), some (.int (0 : Int32))] [] H Q := by
    intro H fH nH sH
    have z0 : (0 : Int32) = Int32.ofNat 0 := rfl
    rw [z0]
    refine w_his_24 14 0 H rfl (by omega) ((fH.K 133 (by omega)).trans hk) sH.1 sH.2.2.1 sH.2.2.2.1 (fun c hc => absurd hc (by omega)) ?_
    intro h' q e1 e2
    exact k h' (fH.trans q (fun b hb w => by omega)) e1 (sH.frx q (by omega) (by decide)) e2
  refine bX4_init_0 ⟨by decide, (by simp [hI_sI, hK_sI, hN_sI, hK_sR, hN_sR, hK_nw, hN_nw, hN0, hk, Nat.add_assoc]), (by simp [hI_sI, hK_sI, hN_sI, hK_sR, hN_sR, hK_nw, hN_nw, hN0, hk, Nat.add_assoc]), go _ (FRX.sR (FRX.n (FRX.sR (FRX.n FRX.refl (by decide)) (Or.inl rfl)) (by decide)) (Or.inl rfl)) (by simp [hI_sI, hK_sI, hN_sI, hK_sR, hN_sR, hK_nw, hN_nw, hN0, hk, Nat.add_assoc]) ⟨?_, ?_, ?_, ?_, ?_, ?_⟩⟩
  all_goals simp [Nat.add_assoc, hK_sR, hL_sR, hR_sR, hN_sR, hK_nw, hL_nw, hR_nw, hN_nw, hN0, hk]
end INI2
