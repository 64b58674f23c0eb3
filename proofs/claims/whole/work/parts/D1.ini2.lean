/-! ===== constructors: machines and the history ===== -/
section INI2
variable {h h' : HP} {x : Nat → Prop} {A : Nat} {d : Nat} {Q : Out → HP → Prop}
theorem FRX.n {k l z : Nat} (q : FRX h h' x) (hz : z ≤ 17000) : FRX h (nw h' k l z) x := q.trans (FRX.nw (x := fun _ => False) hz) (fun _ _ w => w.elim)
theorem w_ch_41 (h1 : 1 < A) {i : Int32} : ∀ (m j : Nat) (h : HP), j + m = 4 → hN h = A + 8 + j → hK h A = 8 → hR h 803 A = A + 7 → hK h (A + 7) = 28 → hL h (A + 7) = 4 → (∀ c, c < j → hAR h (A + 7) c = A + 8 + c ∧ hK h (A + 8 + c) = 2) → (∀ h', FRX h h' (fun b => b = A + 7) → hN h' = A + 12 → (∀ c, c < 4 → hAR h' (A + 7) c = A + 8 + c ∧ hK h' (A + 8 + c) = 2) → Q (.inl none) h') → WP (d + 1) mX8_init 41 [some (.ref A), some (.int i), some (.int (Int32.ofNat j))] [] h Q := by
  intro m
  induction m with
  | zero =>
    intro j h hj hN0 hKA hR3 hK7 hL7 hp k
    obtain rfl : j = 4 := by omega
    exact bX8_init_41 ⟨fun _ => k h FRX.refl hN0 hp, fun c => absurd (by decide) c⟩
  | succ m ih =>
    intro j h hj hN0 hKA hR3 hK7 hL7 hp k
    refine bX8_init_41 ⟨fun c => absurd c (fun w => ?_), fun _ => ⟨hKA, by omega, bX2_init_0 ⟨by omega, ?_⟩⟩⟩
    · have := Int32.le_iff_toInt_le.mp w
      rw [o_i _ (by omega)] at this
      have e : (4 : Int32).toInt = 4 := by decide
      omega
    · rw [KK_ret, hR3]
      have k7 : hK (nw h 2 0 10) (A + 7) = 28 := (nw_K (by omega)).trans hK7
      have l7 : hL (nw h 2 0 10) (A + 7) = 4 := (nw_L (by omega)).trans hL7
      have kn : hK (nw h 2 0 10) (hN h) = 2 := by rw [hK_nw, if_pos rfl]
      refine bX8_init_58 ⟨by rw [k7]; decide, inA_o l7 (by omega) (by decide), ⟨by omega, by rw [k7, kn]; rfl⟩, ?_⟩
      rw [o_c _ (by omega), show Int32.ofNat j + (1 : Int32) = Int32.ofNat (j + 1) from o_addn _ _]
      have f1 : FRX h (sAR (nw h 2 0 10) (A + 7) j (hN h)) (fun b => b = A + 7) := (FRX.refl.n (by decide)).sAR (Or.inl rfl)
      refine ih (j + 1) _ (by omega) (by rw [hN_sAR, hN_nw]; omega) ((f1.K A (by omega)).trans hKA) ((f1.R _ A (by omega) (by omega)).trans hR3) k7 l7 (fun p hpj => ?_) (fun h2 q2 e3 e4 => ?_)
      · by_cases c : p = j
        · subst c
          refine ⟨?_, ?_⟩
          · rw [hAR_sAR, if_pos ⟨rfl, rfl⟩, hN0]
          · rw [← hN0]; exact kn
        · obtain ⟨w1, w2⟩ := hp p (by omega)
          refine ⟨?_, (f1.K _ (by omega)).trans w2⟩
          rw [hAR_sAR, if_neg (fun w => c w.2), nw_AR (by omega)]
          exact w1
      · exact k h2 (f1.trans q2 (fun b _ w => w)) e3 e4
/-- machine A made -/
def SM1 (h : HP) (A : Nat) (i : Int32) : Prop := hI h 800 A = i ∧ hR h 801 A = A + 1 ∧ hR h 802 A = A + 3 ∧ hR h 803 A = A + 7 ∧ hK h (A + 1) = 7 ∧ hR h 700 (A + 1) = A + 2 ∧ hK h (A + 2) = 27 ∧ hL h (A + 2) = 30 ∧ hK h (A + 3) = 5 ∧ hR h 500 (A + 3) = A + 4 ∧ hR h 501 (A + 3) = A + 5 ∧ hR h 503 (A + 3) = A + 6 ∧ hK h (A + 4) = 20 ∧ hL h (A + 4) = 5 ∧ hK h (A + 5) = 20 ∧ hL h (A + 5) = 5 ∧ hK h (A + 6) = 22 ∧ hL h (A + 6) = 5 ∧ hK h (A + 7) = 28 ∧ hL h (A + 7) = 4
theorem SM1.frx {i : Int32} (q : FRX h h' x) (hA : A + 7 < hN h) (hx : ∀ b, A ≤ b → b < A + 7 → ¬ x b) (w : SM1 h A i) : SM1 h' A i := by
  obtain ⟨a1, a2, a3, a4, a5, a6, a7, a8, a9, b0, b1, b2, b3, b4, b5, b6, b7, b8, b9, c0⟩ := w
  exact ⟨(q.I _ A (by omega) (Or.inr (hx A (by omega) (by omega)))).trans a1, (q.R _ A (by omega) (hx A (by omega) (by omega))).trans a2, (q.R _ A (by omega) (hx A (by omega) (by omega))).trans a3, (q.R _ A (by omega) (hx A (by omega) (by omega))).trans a4, (q.K _ (by omega)).trans a5, (q.R _ _ (by omega) (hx _ (by omega) (by omega))).trans a6, (q.K _ (by omega)).trans a7, (q.L _ (by omega)).trans a8, (q.K _ (by omega)).trans a9, (q.R _ _ (by omega) (hx _ (by omega) (by omega))).trans b0, (q.R _ _ (by omega) (hx _ (by omega) (by omega))).trans b1, (q.R _ _ (by omega) (hx _ (by omega) (by omega))).trans b2, (q.K _ (by omega)).trans b3, (q.L _ (by omega)).trans b4, (q.K _ (by omega)).trans b5, (q.L _ (by omega)).trans b6, (q.K _ (by omega)).trans b7, (q.L _ (by omega)).trans b8, (q.K _ (by omega)).trans b9, (q.L _ (by omega)).trans c0⟩
theorem w_X8init (h1 : 1 < A) (hN0 : hN h = A + 1) (hk : hK h A = 8) {i : Int32} {u : Option Value} (k : ∀ h', FRX h h' (fun b => b = A) → hN h' = A + 12 → SM1 h' A i → (∀ c, c < 4 → hAR h' (A + 7) c = A + 8 + c ∧ hK h' (A + 8 + c) = 2) → Q (.inl none) h') : WP (d + 1) mX8_init 0 [some (.ref A), some (.int i), u] [] h Q := by
  have go : ∀ H, FRX h H (fun b => b = A) → hN H = A + 8 → SM1 H A i → WP (d + 1) mX8_init 41 [some (.ref A), some (.int i), some (.int (0 : Int32))] [] H Q := by
    intro H fH nH sH
    have z0 : (0 : Int32) = Int32.ofNat 0 := rfl
    rw [z0]
    refine w_ch_41 h1 4 0 H rfl (by omega) ((fH.K A (by omega)).trans hk) sH.2.2.2.1 sH.2.2.2.2.2.2.2.2.2.2.2.2.2.2.2.2.2.2.1 sH.2.2.2.2.2.2.2.2.2.2.2.2.2.2.2.2.2.2.2 (fun c hc => absurd hc (by omega)) ?_
    intro h' q e1 e2
    exact k h' (fH.trans q (fun b hb w => by omega)) e1 (sH.frx q (by omega) (fun b h3 h4 w => by omega)) e2
  refine bX8_init_0 ⟨h1, by omega, bX7_init_0 ⟨by omega, (by simp [hI_sI, hK_sI, hN_sI, hK_sR, hN_sR, hK_nw, hN_nw, hN0, hk]), ?_⟩⟩
  rw [KK_ret]
  refine bX8_init_12 ⟨(by simp [hI_sI, hK_sI, hN_sI, hK_sR, hN_sR, hK_nw, hN_nw, hN0, hk]), (by simp [hI_sI, hK_sI, hN_sI, hK_sR, hN_sR, hK_nw, hN_nw, hN0, hk]), bX5_init_0 ⟨(by simp [hI_sI, hK_sI, hN_sI, hK_sR, hN_sR, hK_nw, hN_nw, hN0, hk]), (by simp [hI_sI, hK_sI, hN_sI, hK_sR, hN_sR, hK_nw, hN_nw, hN0, hk]), (by simp [hI_sI, hK_sI, hN_sI, hK_sR, hN_sR, hK_nw, hN_nw, hN0, hk]), (by simp [hI_sI, hK_sI, hN_sI, hK_sR, hN_sR, hK_nw, hN_nw, hN0, hk]), ?_⟩⟩
  rw [KK_ret]
  refine bX8_init_23 ⟨(by simp [hI_sI, hK_sI, hN_sI, hK_sR, hN_sR, hK_nw, hN_nw, hN0, hk]), (by simp [hI_sI, hK_sI, hN_sI, hK_sR, hN_sR, hK_nw, hN_nw, hN0, hk]), (by simp [hI_sI, hK_sI, hN_sI, hK_sR, hN_sR, hK_nw, hN_nw, hN0, hk]), go _ ?_ ?_ ⟨?_, ?_, ?_, ?_, ?_, ?_, ?_, ?_, ?_, ?_, ?_, ?_, ?_, ?_, ?_, ?_, ?_, ?_, ?_, ?_⟩⟩
  · refine (((((((((((((FRX.refl.n (by decide)).n (by decide)).sR (Or.inr (by omega))).sR (Or.inl rfl)).n (by decide)).n (by decide)).sR (Or.inr (by omega))).n (by decide)).sR (Or.inr (by omega))).n (by decide)).sR (Or.inr (by omega))).sR (Or.inl rfl)).n (by decide)).sR (Or.inl rfl) |>.s8 (Or.inl rfl)
  all_goals simp [hI_sI, hK_sI, hL_sI, hR_sI, hN_sI, hK_sR, hL_sR, hR_sR, hN_sR, hK_nw, hL_nw, hR_nw, hN_nw, hN0, hk]
/-- the acts of the history -/
theorem w_his_24 : ∀ (m j : Nat) (h : HP), j + m = 14 → hN h = 136 + j → hK h 133 = 4 → hR h 400 133 = 134 → hK h 134 = 29 → hL h 134 = 14 → (∀ c, c < j → hAR h 134 c = 136 + c ∧ hK h (136 + c) = 0) → (∀ h', FRX h h' (fun b => b = 134) → hN h' = 150 → (∀ c, c < 14 → hAR h' 134 c = 136 + c ∧ hK h' (136 + c) = 0) → Q (.inl none) h') → WP (d + 1) mX4_init 24 [some (.ref 133), some (.int (Int32.ofNat j))] [] h Q := by
  intro m
  induction m with
  | zero =>
    intro j h hj hN0 hKA hR3 hK7 hL7 hp k
    obtain rfl : j = 14 := by omega
    exact bX4_init_24 ⟨fun _ => k h FRX.refl hN0 hp, fun c => absurd (by decide) c⟩
  | succ m ih =>
    intro j h hj hN0 hKA hR3 hK7 hL7 hp k
    refine bX4_init_24 ⟨fun c => absurd c (fun w => ?_), fun _ => ⟨hKA, by omega, bX0_init_0 ⟨by omega, ?_⟩⟩⟩
    · have := Int32.le_iff_toInt_le.mp w
      rw [o_i _ (by omega)] at this
      have e : (14 : Int32).toInt = 14 := by decide
      omega
    · rw [KK_ret, hR3]
      have k7 : hK (nw h 0 0 6) 134 = 29 := (nw_K (by omega)).trans hK7
      have l7 : hL (nw h 0 0 6) 134 = 14 := (nw_L (by omega)).trans hL7
      have kn : hK (nw h 0 0 6) (hN h) = 0 := by rw [hK_nw, if_pos rfl]
      refine bX4_init_42 ⟨by rw [k7]; decide, inA_o l7 (by omega) (by decide), ⟨by omega, by rw [k7, kn]; rfl⟩, ?_⟩
      rw [o_c _ (by omega), show Int32.ofNat j + (1 : Int32) = Int32.ofNat (j + 1) from o_addn _ _]
      have f1 : FRX h (sAR (nw h 0 0 6) 134 j (hN h)) (fun b => b = 134) := (FRX.refl.n (by decide)).sAR (Or.inl rfl)
      refine ih (j + 1) _ (by omega) (by rw [hN_sAR, hN_nw]; omega) ((f1.K 133 (by omega)).trans hKA) ((f1.R _ 133 (by omega) (by omega)).trans hR3) k7 l7 (fun p hpj => ?_) (fun h2 q2 e3 e4 => ?_)
      · by_cases c : p = j
        · subst c
          refine ⟨?_, ?_⟩
          · rw [hAR_sAR, if_pos ⟨rfl, rfl⟩, hN0]
          · rw [← hN0]; exact kn
        · obtain ⟨w1, w2⟩ := hp p (by omega)
          refine ⟨?_, (f1.K _ (by omega)).trans w2⟩
          rw [hAR_sAR, if_neg (fun w => c w.2), nw_AR (by omega)]
          exact w1
      · exact k h2 (f1.trans q2 (fun b _ w => w)) e3 e4
/-- the history made -/
def HS1 (h : HP) : Prop := hR h 400 133 = 134 ∧ hR h 401 133 = 135 ∧ hK h 134 = 29 ∧ hL h 134 = 14 ∧ hK h 135 = 29 ∧ hL h 135 = 14
theorem HS1.frx (q : FRX h h' x) (hA : 135 < hN h) (hx : ¬ x 133) (w : HS1 h) : HS1 h' := by
  obtain ⟨a1, a2, a3, a4, a5, a6⟩ := w
  exact ⟨(q.R _ _ (by omega) hx).trans a1, (q.R _ _ (by omega) hx).trans a2, (q.K _ (by omega)).trans a3, (q.L _ (by omega)).trans a4, (q.K _ (by omega)).trans a5, (q.L _ (by omega)).trans a6⟩
theorem w_X4init (hN0 : hN h = 134) (hk : hK h 133 = 4) {u : Option Value} (k : ∀ h', FRX h h' (fun b => b = 133) → hN h' = 150 → HS1 h' → (∀ c, c < 14 → hAR h' 134 c = 136 + c ∧ hK h' (136 + c) = 0) → Q (.inl none) h') : WP (d + 1) mX4_init 0 [some (.ref 133), u] [] h Q := by
  have go : ∀ H, FRX h H (fun b => b = 133) → hN H = 136 → HS1 H → WP (d + 1) mX4_init 24 [some (.ref 133), some (.int (0 : Int32))] [] H Q := by
    intro H fH nH sH
    have z0 : (0 : Int32) = Int32.ofNat 0 := rfl
    rw [z0]
    refine w_his_24 14 0 H rfl (by omega) ((fH.K 133 (by omega)).trans hk) sH.1 sH.2.2.1 sH.2.2.2.1 (fun c hc => absurd hc (by omega)) ?_
    intro h' q e1 e2
    exact k h' (fH.trans q (fun b hb w => by omega)) e1 (sH.frx q (by omega) (by decide)) e2
  refine bX4_init_0 ⟨by decide, (by simp [hI_sI, hK_sI, hN_sI, hK_sR, hN_sR, hK_nw, hN_nw, hN0, hk]), (by simp [hI_sI, hK_sI, hN_sI, hK_sR, hN_sR, hK_nw, hN_nw, hN0, hk]), go _ ((((FRX.refl.n (by decide)).sR (Or.inl rfl)).n (by decide)).sR (Or.inl rfl)) (by simp [hI_sI, hK_sI, hN_sI, hK_sR, hN_sR, hK_nw, hN_nw, hN0, hk]) ⟨?_, ?_, ?_, ?_, ?_, ?_⟩⟩
  all_goals simp [hK_sR, hL_sR, hR_sR, hN_sR, hK_nw, hL_nw, hR_nw, hN_nw, hN0, hk]
end INI2
