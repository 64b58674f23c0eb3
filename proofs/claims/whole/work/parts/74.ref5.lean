/-! ===== the reference: toggle, cut, rate, spans, pass ===== -/
section REFE
variable {S : SI} {F : SF} {e : EX} {M : SI} {G : SF} {c : Nat × Nat × Nat × (Nat → Int32)} {h : HP} {d : Nat} {Q : Out → HP → Prop} {n q : Nat}
/-- what `ends` asks of the content -/
def ENDH (M : SI) (n na : Nat) : Prop := M 0 0 = Int32.ofNat n ∧ n ≤ 5 ∧ M 47 0 = Int32.ofNat na ∧ na ≤ 14 ∧ (∀ a, a < na → M 41 a = 0 ∨ M 41 a = 1) ∧ ∀ i, i < n → ∃ ci, M 13 i = Int32.ofNat ci ∧ ci ≤ 30
theorem x_endsH {na : Nat} (hr : RC S F e (M, G, c) h) (hM : M 1000 0 = 0) (H : ENDH M n na) {u : Option Value} (k : ∀ h', RC S F e (endsS M, G, c) h' → Q (.inl none) h') : WP (d + 1) mX12_ends 0 [some (.ref 210), u] [] h Q := x_ends hr hM H.1 H.2.1 H.2.2.1 H.2.2.2.1 H.2.2.2.2.1 H.2.2.2.2.2 k
/-- the first choices of m up to place j emptied -/
def drJ (M : SI) (m j : Nat) : SI := fun s k => if s = 31 ∧ (4 * m ≤ k ∧ k < 4 * m + j) then -1 else M s k
theorem drJ_succ {m j : Nat} : u2 (drJ M m j) 31 (4 * m + j) (-1) = drJ M m (j + 1) := by
  funext s k
  show (if s = 31 ∧ k = 4 * m + j then (-1 : Int32) else if s = 31 ∧ (4 * m ≤ k ∧ k < 4 * m + j) then -1 else M s k) = if s = 31 ∧ (4 * m ≤ k ∧ k < 4 * m + (j + 1)) then -1 else M s k
  by_cases c1 : s = 31 ∧ k = 4 * m + j
  · rw [if_pos c1, if_pos (by omega)]
  · rw [if_neg c1]
    by_cases c2 : s = 31 ∧ (4 * m ≤ k ∧ k < 4 * m + j)
    · rw [if_pos c2, if_pos (by omega)]
    · rw [if_neg c2, if_neg (by omega)]
theorem x_toggle_98 (hM : M 1000 0 = 0) {p na : Nat} (hp : p < 5) (H : ENDH (dropS M p) n na) (hz : M 5 p = 0) (k : ∀ h', RC S F e (endsS (dropS M p), G, c) h' → Q (.inl (some (.int 0))) h') :
    ∀ (m j : Nat) (h : HP), j + m = 4 → RC S F e (drJ M p j, G, c) h → WP (d + 2) mX12_toggle 98 [some (.ref 210), some (.int (Int32.ofNat p)), some (.int (Int32.ofNat (4 * p + j)))] [] h Q := by
  intro m
  induction m with
  | zero =>
    intro j h hj hr
    obtain rfl : j = 4 := by omega
    have hM' : drJ M p 4 1000 0 = 0 := hM
    refine bX12_toggle_98 ?_
    simp (disch := omega) only [o_c, o_add, o_addn, o_nadd, o_muln, o_le, o_lt, o_nle, o_len, o_nlt, o_ltn, o_eq, o_eqn, o_neq, o_sub1]
    refine ⟨fun _ => ⟨by decide, q0 hr hM', x_endsH (M := dropS M p) hr hM H ?_⟩, fun c => absurd (Nat.le_refl _) c⟩
    intro h' hr'
    rw [KK_ret]
    refine bX12_toggle_124 ?_
    have hM2 : endsS (dropS M p) 1000 0 = 0 := hM
    have e5 : endsS (dropS M p) 5 p = 0 := by
      unfold endsS dropS
      rw [if_neg (by omega), if_neg (by omega)]
      exact hz
    simp (disch := omega) only [q0 hr' hM2, qR_5 hr' hM2, qK_5 hr' hM2, qi_5 hr' hM2, qA_5 hr' hM2, e5, o_c, o_add, o_addn, o_nadd, o_muln, o_le, o_lt, o_nle, o_len, o_nlt, o_ltn, o_eq, o_eqn, o_neq, o_sub1, true_and]
    exact ⟨rfl, k h' hr'⟩
  | succ m ih =>
    intro j h hj hr
    have hM' : drJ M p j 1000 0 = 0 := hM
    refine bX12_toggle_98 ?_
    have hM := hM'
    simp (disch := omega) only [q0 hr hM, qR_31 hr hM, qK_31 hr hM, qi_31 hr hM, qA_31 hr hM, o_c, o_add, o_addn, o_nadd, o_muln, o_le, o_lt, o_nle, o_len, o_nlt, o_ltn, o_eq, o_eqn, o_neq, o_sub1, true_and]
    refine ⟨fun c => by omega, fun _ => ih (j + 1) _ (by omega) ?_⟩
    rw [← drJ_succ]
    exact rm_31 _ (-1) hr
theorem x_toggle {na : Nat} (hr : RC S F e (M, G, c) h) (hM : M 1000 0 = 0) (hn : M 0 0 = Int32.ofNat n) (hn5 : n = 3 ∨ n = 5) {x : Int32} {u : Option Value} (hz : ∀ m, m < n → M 5 m = 0 ∨ M 5 m = 1) (hnn : ∀ m, m < n → nn32 (FP.fadd (G 7 m) (G 2 0)) = true) (H : ∀ m, m < n → ENDH (toggleP (stepS (u2 M 50 0 0), G) m).1 n na) (k3 : ¬ (0 ≤ x.toInt ∧ x.toInt < n) → ∀ h', RC S F e (u2 M 50 0 1, G, c) h' → Q (.inl (some (.int 0))) h') (k : ∀ m, x = Int32.ofNat m → m < n → ∀ h', RC S F e (endsS (toggleP (stepS (u2 M 50 0 0), G) m).1, (toggleP (stepS (u2 M 50 0 0), G) m).2, c) h' → Q (.inl (some (.int (if M 5 m = 1 then 0 else 1)))) h') : WP (d + 2) mX12_toggle 0 [some (.ref 210), some (.int x), u] [] h Q := by
  refine bX12_toggle_0 ⟨by decide, q0 hr hM, x_isMachine hr hM hn hn5 ?_⟩
  rw [KK_ret]
  refine bX12_toggle_6 ⟨by decide, q0 hr hM, x_goes (b := true) (g := true) hr hM ?_⟩
  intro h1 hr1
  rw [KK_ret]
  by_cases cx : 0 ≤ x.toInt ∧ x.toInt < n
  · rw [decide_eq_true cx] at hr1 ⊢
    obtain ⟨m, hm, hmn⟩ := o_in cx (by omega)
    have kk := k m hm hmn
    have HH := H m hmn
    have zz := hz m hmn
    have nn := hnn m hmn
    subst hm
    have hM1 : u2 M 50 0 0 1000 0 = 0 := hM
    have e4 : hI h1 1204 210 = M 4 0 := qI_4 (M := u2 M 50 0 0) hr1 hM1
    have r1 : RC S F e (stepS (u2 M 50 0 0), G, c) (sI h1 1204 210 (M 4 0 + 1)) := rm_4 (M 4 0 + 1) hr1
    have hr1' : RC S F e (u2 M 50 0 0, G, c) h1 := hr1
    have ra := rm_5 m 0 r1
    have rb := rm_5 m 1 r1
    have hMa : u2 (stepS (u2 M 50 0 0)) 5 m 0 1000 0 = 0 := hM
    have hMb : u2 (stepS (u2 M 50 0 0)) 5 m 1 1000 0 = 0 := hM
    have e5 : u2 M 50 0 0 5 m = M 5 m := rfl
    refine bX12_toggle_11 ⟨fun _ => ?_, fun w => absurd (by decide) w⟩
    have eF : hF h1 1202 210 = G 2 0 := qI_2 hr1' hM1
    have a0 := qA_5 ra hMa
    have a1 := qA_5 rb hMb
    simp (disch := omega) only [q0 hr1' hM1, qR_5 hr1' hM1, qK_5 hr1' hM1, qi_5 hr1' hM1, qA_5 hr1' hM1, qR_25 hr1' hM1, qK_25 hr1' hM1, qi_25 hr1' hM1, qA_25 hr1' hM1, qR_7 hr1' hM1, qK_7 hr1' hM1, qi_7 hr1' hM1, qA_7 hr1' hM1, qR_26 hr1' hM1, qK_26 hr1' hM1, qi_26 hr1' hM1, qA_26 hr1' hM1, e4, e5, eF, a0, a1, u2_eq, o_c, o_add, o_addn, o_nadd, o_muln, o_le, o_lt, o_nle, o_len, o_nlt, o_ltn, o_eq, o_eqn, o_neq, o_sub1, true_and]
    rcases zz with z | z
    · have c1 : ¬ M 5 m = 1 := by rw [z]; decide
      have ep : toggleP (stepS (u2 M 50 0 0), G) m = (riseS (stepS (u2 M 50 0 0)) m, riseF G m) := if_neg (show ¬ stepS (u2 M 50 0 0) 5 m = 1 from c1)
      rw [ep] at kk HH
      rw [if_neg c1] at kk
      refine ⟨fun w => absurd z w, fun _ => ⟨fun w => absurd w (by decide), fun _ => ?_⟩⟩
      refine ⟨nn, by decide, x_endsH (M := riseS (stepS (u2 M 50 0 0)) m) (G := riseF G m) (rm_26 m (FP.fadd (G 7 m) (G 2 0)) (rm_25 m (Int32.ofNat m) rb)) hM HH ?_⟩
      intro h' hr'
      rw [KK_ret]
      refine bX12_toggle_124 ?_
      have hM2 : endsS (riseS (stepS (u2 M 50 0 0)) m) 1000 0 = 0 := hM
      have e5 : endsS (riseS (stepS (u2 M 50 0 0)) m) 5 m = 1 := by
        unfold endsS riseS
        rw [if_neg (by omega), u2_ne (by omega), u2_eq]
      simp (disch := omega) only [q0 hr' hM2, qR_5 hr' hM2, qK_5 hr' hM2, qi_5 hr' hM2, qA_5 hr' hM2, e5, o_c, o_add, o_addn, o_nadd, o_muln, o_le, o_lt, o_nle, o_len, o_nlt, o_ltn, o_eq, o_eqn, o_neq, o_sub1, true_and]
      exact ⟨rfl, kk h' hr'⟩
    · have c1 : ¬ M 5 m = 0 := by rw [z]; decide
      have ep : toggleP (stepS (u2 M 50 0 0), G) m = (crashS (stepS (u2 M 50 0 0)) m, G) := if_pos (show stepS (u2 M 50 0 0) 5 m = 1 from z)
      rw [ep] at kk HH
      rw [if_pos z] at kk
      refine ⟨fun _ => ⟨fun _ => ⟨by decide, ?_⟩, fun w => absurd trivial w⟩, fun w => absurd c1 w⟩
      refine x_follows ra hMa (by omega) ?_
      intro h2 hr2
      rw [KK_ret]
      have hM2 : followS (u2 (stepS (u2 M 50 0 0)) 5 m 0) m 1000 0 = 0 := hM
      refine bX12_toggle_87 ?_
      simp (disch := omega) only [q0 hr2 hM2, qR_13 hr2 hM2, qK_13 hr2 hM2, qi_13 hr2 hM2, qA_13 hr2 hM2, o_c, o_add, o_addn, o_nadd, o_muln, o_le, o_lt, o_nle, o_len, o_nlt, o_ltn, o_eq, o_eqn, o_neq, o_sub1, true_and]
      refine x_toggle_98 (S := S) (F := F) (e := e) (G := G) (c := c) (M := u2 (followS (u2 (stepS (u2 M 50 0 0)) 5 m 0) m) 13 m 0) (p := m) hM (by omega) HH ?_ kk 4 0 _ rfl ?_
      · unfold followS
        rw [u2_ne (by omega), u2_ne (by omega), u2_ne (by omega), u2_eq]
      · have e0 : drJ (u2 (followS (u2 (stepS (u2 M 50 0 0)) 5 m 0) m) 13 m 0) m 0 = u2 (followS (u2 (stepS (u2 M 50 0 0)) 5 m 0) m) 13 m 0 := by
          funext s k
          unfold drJ
          rw [if_neg (by omega)]
        rw [e0]
        exact rm_13 m 0 hr2
  · rw [decide_eq_false cx] at hr1 ⊢
    exact bX12_toggle_11 ⟨fun w => absurd rfl w, fun _ => k3 cx h1 hr1⟩
end REFE
