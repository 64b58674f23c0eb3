/-! ===== the reference: twice, toggle, cut, rate, spans, pass ===== -/
section REFD
variable {S : SI} {F : SF} {e : EX} {M : SI} {G : SF} {c : Nat × Nat × Nat × (Nat → Int32)} {h : HP} {d : Nat} {Q : Out → HP → Prop} {n q : Nat}
/-- the first j slots of row p put at row q -/
def cpJ (M : SI) (p q j : Nat) : SI := fun s k => if s = 37 ∧ (24 * q ≤ k ∧ k < 24 * q + j) then M 37 (24 * p + (k - 24 * q)) else M s k
theorem cpJ_lo {p j : Nat} (hp : p < q) (i : Nat) (hi : i < 24) : cpJ M p q j 37 (24 * p + i) = M 37 (24 * p + i) := by
  unfold cpJ
  rw [if_neg (by omega)]
theorem cpJ_succ {p j : Nat} : u2 (cpJ M p q j) 37 (24 * q + j) (M 37 (24 * p + j)) = cpJ M p q (j + 1) := by
  funext s k
  show (if s = 37 ∧ k = 24 * q + j then M 37 (24 * p + j) else if s = 37 ∧ (24 * q ≤ k ∧ k < 24 * q + j) then M 37 (24 * p + (k - 24 * q)) else M s k) = if s = 37 ∧ (24 * q ≤ k ∧ k < 24 * q + (j + 1)) then M 37 (24 * p + (k - 24 * q)) else M s k
  by_cases c1 : s = 37 ∧ k = 24 * q + j
  · rw [if_pos c1, if_pos (by omega), c1.2, show 24 * q + j - 24 * q = j by omega]
  · rw [if_neg c1]
    by_cases c2 : s = 37 ∧ (24 * q ≤ k ∧ k < 24 * q + j)
    · rw [if_pos c2, if_pos (by omega)]
    · rw [if_neg c2, if_neg (by omega)]
theorem cpJ_all {p : Nat} (hq : M 39 0 = Int32.ofNat q) (hq60 : q < 60) : u2 (cpJ M p q 24) 39 0 (M 39 0 + 1) = twiceS M p := by
  have hn : nt (M 39 0) = q := nt_of hq (by omega)
  funext s k
  unfold twiceS pushS
  rw [hn]
  by_cases c2 : s = 39 ∧ k = 0
  · rw [c2.1, c2.2, u2_eq, if_neg (by omega), if_pos ⟨rfl, rfl, hq60⟩]
  · rw [u2_ne (by omega), if_neg (show ¬ (s = 39 ∧ (k = 0 ∧ q < 60)) by omega)]
    unfold cpJ
    by_cases c1 : s = 37 ∧ (24 * q ≤ k ∧ k < 24 * q + 24)
    · rw [if_pos c1, if_pos ⟨c1.1, hq60, c1.2⟩]
    · rw [if_neg c1, if_neg (by omega)]
theorem x_twice_37 (hM : M 1000 0 = 0) {p : Nat} (hq : M 39 0 = Int32.ofNat q) (hq60 : q < 60) (hp : p < q) (k : ∀ h', RC S F e (twiceS M p, pushF M G (G 38 p), c) h' → Q (.inl (some (.int (Int32.ofNat (q + 1))))) h') :
    ∀ (m j : Nat) (h : HP), j + m = 24 → RC S F e (cpJ M p q j, G, c) h → WP d mX12_twice 37 [some (.ref 210), some (.int (Int32.ofNat p)), some (.int (Int32.ofNat j))] [] h Q := by
  intro m
  induction m with
  | zero =>
    intro j h hj hr
    obtain rfl : j = 24 := by omega
    have hM' : cpJ M p q 24 1000 0 = 0 := hM
    have e39 : cpJ M p q 24 39 0 = Int32.ofNat q := hq
    refine bX12_twice_37 ⟨fun _ => ?_, fun c => absurd (by decide) c⟩
    have hM := hM'
    have r1 := rm_38 q (G 38 p) hr
    have r2 := rm_39 (Int32.ofNat (q + 1)) r1
    simp (disch := omega) only [q0 hr hM, qR_38 hr hM, qK_38 hr hM, qi_38 hr hM, qA_38 hr hM, qI_39 hr hM, q0 r1 hM, qI_39 r1 hM, q0 r2 hM, qI_39 r2 hM, e39, u2_eq, o_c, o_add, o_addn, o_nadd, o_muln, o_le, o_lt, o_nle, o_len, o_nlt, o_ltn, o_eq, o_eqn, o_neq, o_sub1, true_and]
    refine k _ ?_
    rw [← cpJ_all hq hq60, ← pushF_ref hq hq60, hq, o_addn]
    exact r2
  | succ m ih =>
    intro j h hj hr
    have hM' : cpJ M p q j 1000 0 = 0 := hM
    have e39 : cpJ M p q j 39 0 = Int32.ofNat q := hq
    refine bX12_twice_37 ?_
    have hM := hM'
    simp (disch := omega) only [q0 hr hM, qR_37 hr hM, qK_37 hr hM, qi_37 hr hM, qA_37 hr hM, qI_39 hr hM, e39, cpJ_lo hp, o_c, o_add, o_addn, o_nadd, o_muln, o_le, o_lt, o_nle, o_len, o_nlt, o_ltn, o_eq, o_eqn, o_neq, o_sub1, true_and]
    refine ⟨fun q => absurd q (show ¬ 24 ≤ j by omega), fun _ => ih (j + 1) _ (by omega) ?_⟩
    rw [← cpJ_succ]
    exact rm_37 _ _ hr
theorem x_twice (hr : RC S F e (M, G, c) h) (hM : M 1000 0 = 0) (hq : M 39 0 = Int32.ofNat q) (hq60 : q ≤ 60) {x : Int32} {u : Option Value} (k3 : ¬ (0 ≤ x.toInt ∧ x.toInt < q) → ∀ h', RC S F e (u2 M 50 0 1, G, c) h' → Q (.inl (some (.int 0))) h') (k : ∀ p, x = Int32.ofNat p → p < q → ∀ h', RC S F e (twiceS (stepS (u2 M 50 0 0)) p, pushF (stepS (u2 M 50 0 0)) G (G 38 p), c) h' → Q (.inl (some (.int (Int32.ofNat (min 60 (q + 1)))))) h') : WP (d + 2) mX12_twice 0 [some (.ref 210), some (.int x), u] [] h Q := by
  refine bX12_twice_0 ⟨by decide, q0 hr hM, x_isMessage hr hM hq hq60 ?_⟩
  rw [KK_ret]
  refine bX12_twice_6 ⟨by decide, q0 hr hM, x_goes (b := true) (g := true) hr hM ?_⟩
  intro h1 hr1
  rw [KK_ret]
  by_cases cx : 0 ≤ x.toInt ∧ x.toInt < q
  · rw [decide_eq_true cx] at hr1 ⊢
    obtain ⟨p, hp, hpq⟩ := o_in cx (by omega)
    have kk := k p hp hpq
    subst hp
    have hM1 : u2 M 50 0 0 1000 0 = 0 := hM
    have e4 : hI h1 1204 210 = M 4 0 := qI_4 (M := u2 M 50 0 0) hr1 hM1
    have r2 : RC S F e (stepS (u2 M 50 0 0), G, c) (sI h1 1204 210 (M 4 0 + 1)) := rm_4 (M 4 0 + 1) hr1
    have hM2 : stepS (u2 M 50 0 0) 1000 0 = 0 := hM
    have e39 : hI (sI h1 1204 210 (M 4 0 + 1)) 1239 210 = Int32.ofNat q := (qI_39 (M := stepS (u2 M 50 0 0)) r2 hM2).trans hq
    have hq2 : stepS (u2 M 50 0 0) 39 0 = Int32.ofNat q := hq
    refine bX12_twice_11 ⟨fun _ => ⟨q0 hr1 hM1, ?_⟩, fun w => absurd (by decide) w⟩
    rw [e4, e39, o_nle _ _ (by decide) (by omega)]
    refine ⟨fun c1 => ?_, fun c1 => ?_⟩
    · have c1' : 60 ≤ q := c1
      obtain rfl : q = 60 := by omega
      refine kk _ ?_
      have e1 : twiceS (stepS (u2 M 50 0 0)) p = stepS (u2 M 50 0 0) := push_full hq2
      rw [e1, pushF_full hq2]
      exact r2
    · have c1' : ¬ 60 ≤ q := c1
      rw [show min 60 (q + 1) = q + 1 by omega] at kk
      refine x_twice_37 (S := S) (F := F) (e := e) (G := G) (c := c) (M := stepS (u2 M 50 0 0)) hM2 hq2 (by omega) hpq kk 24 0 _ rfl ?_
      have e0 : cpJ (stepS (u2 M 50 0 0)) p q 0 = stepS (u2 M 50 0 0) := by
        funext s k
        unfold cpJ
        rw [if_neg (by omega)]
      rw [e0]
      exact r2
  · rw [decide_eq_false cx] at hr1 ⊢
    exact bX12_twice_11 ⟨fun w => absurd rfl w, fun _ => k3 cx h1 hr1⟩
end REFD
