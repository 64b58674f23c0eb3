/-! ===== the reference: cut, rate, spans, pass ===== -/
section REFF
variable {S : SI} {F : SF} {e : EX} {M : SI} {G : SF} {c : Nat × Nat × Nat × (Nat → Int32)} {h : HP} {d : Nat} {Q : Out → HP → Prop} {n q : Nat}
theorem x_cut (hr : RC S F e (M, G, c) h) (hM : M 1000 0 = 0) (hn : M 0 0 = Int32.ofNat n) (hn5 : n = 3 ∨ n = 5) {x y : Int32} (hz : ∀ k, k < 25 → M 6 k = 0 ∨ M 6 k = 1) (k3 : ¬ ((0 ≤ x.toInt ∧ x.toInt < n) ∧ (0 ≤ y.toInt ∧ y.toInt < n)) → ∀ h', RC S F e (u2 M 50 0 1, G, c) h' → Q (.inl (some (.int 0))) h') (k1 : (0 ≤ x.toInt ∧ x.toInt < n) ∧ (0 ≤ y.toInt ∧ y.toInt < n) → x = y → ∀ h', RC S F e (u2 M 50 0 2, G, c) h' → Q (.inl (some (.int 0))) h') (k : ∀ a b, x = Int32.ofNat a → a < n → y = Int32.ofNat b → b < n → a ≠ b → ∀ h', RC S F e (cutS (stepS (u2 M 50 0 0)) a b, G, c) h' → Q (.inl (some (.int (b2i (decide (M 6 (5 * a + b) = 0)))))) h') : WP (d + 2) mX12_cut 0 [some (.ref 210), some (.int x), some (.int y)] [] h Q := by
  have fin : ∀ (b1 b2 : Bool), (b1 = decide ((0 ≤ x.toInt ∧ x.toInt < n) ∧ (0 ≤ y.toInt ∧ y.toInt < n))) → (b2 = decide (¬ x = y)) → WP (d + 1) mX12_goes 0 [some (.ref 210), some (.int (b2i b1)), some (.int (b2i b2)), some (.int (b2i true))] [] h (KK (d + 1) mX12_cut mX12_goes 33 [some (.ref 210), some (.int x), some (.int y)] [] Q) := by
    intro b1 b2 hb1 hb2
    refine x_goes hr hM ?_
    intro h1 hr1
    rw [KK_ret]
    by_cases cx : (0 ≤ x.toInt ∧ x.toInt < n) ∧ (0 ≤ y.toInt ∧ y.toInt < n)
    · rw [decide_eq_true cx] at hb1
      subst hb1
      by_cases cy : x = y
      · rw [decide_eq_false (fun w => w cy)] at hb2
        subst hb2
        exact bX12_cut_36 ⟨fun w => absurd rfl w, fun _ => k1 cx cy h1 hr1⟩
      · rw [decide_eq_true cy] at hb2
        subst hb2
        obtain ⟨a, ha, han⟩ := o_in cx.1 (by omega)
        obtain ⟨b, hb, hbn⟩ := o_in cx.2 (by omega)
        have kk := k a b ha han hb hbn (fun w => cy (by rw [ha, hb, w]))
        subst ha hb
        have zz := hz (5 * a + b) (by omega)
        have hM1 : u2 M 50 0 0 1000 0 = 0 := hM
        have hr1' : RC S F e (u2 M 50 0 0, G, c) h1 := hr1
        have e4 : hI h1 1204 210 = M 4 0 := qI_4 (M := u2 M 50 0 0) hr1 hM1
        have r1 : RC S F e (stepS (u2 M 50 0 0), G, c) (sI h1 1204 210 (M 4 0 + 1)) := rm_4 (M 4 0 + 1) hr1
        have ra := rm_6 (5 * a + b) 0 r1
        have rb := rm_6 (5 * a + b) 1 r1
        have hMa : u2 (stepS (u2 M 50 0 0)) 6 (5 * a + b) 0 1000 0 = 0 := hM
        have hMb : u2 (stepS (u2 M 50 0 0)) 6 (5 * a + b) 1 1000 0 = 0 := hM
        have ra2 := rm_6 (5 * b + a) 0 ra
        have rb2 := rm_6 (5 * b + a) 1 rb
        have hMa2 : u2 (u2 (stepS (u2 M 50 0 0)) 6 (5 * a + b) 0) 6 (5 * b + a) 0 1000 0 = 0 := hM
        have hMb2 : u2 (u2 (stepS (u2 M 50 0 0)) 6 (5 * a + b) 1) 6 (5 * b + a) 1 1000 0 = 0 := hM
        have a0 := qA_6 ra hMa
        have a1 := qA_6 rb hMb
        have a2 := qA_6 ra2 hMa2
        have a3 := qA_6 rb2 hMb2
        have e5 : u2 M 50 0 0 6 (5 * a + b) = M 6 (5 * a + b) := rfl
        have f0 : u2 (u2 (stepS (u2 M 50 0 0)) 6 (5 * a + b) 0) 6 (5 * b + a) 0 6 (5 * a + b) = 0 := by
          unfold u2
          by_cases w : 6 = 6 ∧ 5 * a + b = 5 * b + a
          · rw [if_pos w]
          · rw [if_neg w, if_pos ⟨rfl, rfl⟩]
        have f1 : u2 (u2 (stepS (u2 M 50 0 0)) 6 (5 * a + b) 1) 6 (5 * b + a) 1 6 (5 * a + b) = 1 := by
          unfold u2
          by_cases w : 6 = 6 ∧ 5 * a + b = 5 * b + a
          · rw [if_pos w]
          · rw [if_neg w, if_pos ⟨rfl, rfl⟩]
        refine bX12_cut_36 ⟨fun _ => ?_, fun w => absurd (by decide) w⟩
        simp (disch := omega) only [q0 hr1' hM1, qR_6 hr1' hM1, qK_6 hr1' hM1, qi_6 hr1' hM1, qA_6 hr1' hM1, e4, e5, a0, a1, a2, a3, u2_eq, f0, f1, o_c, o_add, o_addn, o_nadd, o_muln, o_le, o_lt, o_nle, o_len, o_nlt, o_ltn, o_eq, o_eqn, o_neq, o_sub1, true_and]
        unfold cutS at kk
        have e6 : stepS (u2 M 50 0 0) 6 (5 * a + b) = M 6 (5 * a + b) := rfl
        rw [e6] at kk
        rcases zz with z | z
        · rw [z] at kk
          exact ⟨fun w => absurd z w, fun _ => ⟨rfl, bX12_cut_109 ⟨rfl, kk _ rb2⟩⟩⟩
        · rw [z] at kk
          exact ⟨fun _ => ⟨rfl, bX12_cut_109 ⟨rfl, kk _ ra2⟩⟩, fun w => absurd (show ¬ M 6 (5 * a + b) = 0 by rw [z]; decide) w⟩
    · rw [decide_eq_false cx] at hb1
      subst hb1
      refine bX12_cut_36 ⟨fun w => absurd rfl w, fun _ => k3 cx h1 ?_⟩
      exact hr1
  refine bX12_cut_0 ⟨by decide, q0 hr hM, x_isMachine hr hM hn hn5 ?_⟩
  rw [KK_ret]
  refine bX12_cut_6 ⟨fun c1 => ?_, fun c1 => ⟨by decide, q0 hr hM, x_isMachine hr hM hn hn5 ?_⟩⟩
  · have c1' : ¬ (0 ≤ x.toInt ∧ x.toInt < n) := by simpa [b2i_z] using c1
    exact ⟨fun c2 => ⟨by decide, q0 hr hM, fin false false (decide_eq_false (fun w => c1' w.1)).symm (decide_eq_false (fun w => w c2)).symm⟩, fun c2 => ⟨by decide, q0 hr hM, fin false true (decide_eq_false (fun w => c1' w.1)).symm (decide_eq_true c2).symm⟩⟩
  · rw [KK_ret]
    have c1' : 0 ≤ x.toInt ∧ x.toInt < n := by simpa [b2i_z] using c1
    refine bX12_cut_14 ⟨fun c3 => ?_, fun c3 => ?_⟩
    · have c3' : ¬ (0 ≤ y.toInt ∧ y.toInt < n) := by simpa [b2i_z] using c3
      exact ⟨fun c2 => ⟨by decide, q0 hr hM, fin false false (decide_eq_false (fun w => c3' w.2)).symm (decide_eq_false (fun w => w c2)).symm⟩, fun c2 => ⟨by decide, q0 hr hM, fin false true (decide_eq_false (fun w => c3' w.2)).symm (decide_eq_true c2).symm⟩⟩
    · have c3' : 0 ≤ y.toInt ∧ y.toInt < n := by simpa [b2i_z] using c3
      exact ⟨fun c2 => ⟨by decide, q0 hr hM, fin true false (decide_eq_true ⟨c1', c3'⟩).symm (decide_eq_false (fun w => w c2)).symm⟩, fun c2 => ⟨by decide, q0 hr hM, fin true true (decide_eq_true ⟨c1', c3'⟩).symm (decide_eq_true c2).symm⟩⟩
theorem x_rate (hr : RC S F e (M, G, c) h) (hM : M 1000 0 = 0) (hn : M 0 0 = Int32.ofNat n) (hn5 : n = 3 ∨ n = 5) {x y : Int32} (hnn : nn32 (FP.fdiv (FP.i2f y) (1148846080 : UInt32)) = true) (k3 : ¬ (0 ≤ x.toInt ∧ x.toInt < n) → ∀ h', RC S F e (u2 M 50 0 1, G, c) h' → Q (.inl (some (.float FP.fconst0))) h') (k1 : (0 ≤ x.toInt ∧ x.toInt < n) → ¬ (500 ≤ y.toInt ∧ y.toInt ≤ 1500) → ∀ h', RC S F e (u2 M 50 0 2, G, c) h' → Q (.inl (some (.float FP.fconst0))) h') (k : ∀ m, x = Int32.ofNat m → m < n → (500 ≤ y.toInt ∧ y.toInt ≤ 1500) → ∀ h', RC S F e (stepS (u2 M 50 0 0), u2 G 8 m (FP.fdiv (FP.i2f y) (1148846080 : UInt32)), c) h' → Q (.inl (some (.float (G 7 m)))) h') : WP (d + 2) mX12_rate 0 [some (.ref 210), some (.int x), some (.int y)] [] h Q := by
  refine bX12_rate_0 ⟨by decide, q0 hr hM, x_isMachine hr hM hn hn5 ?_⟩
  rw [KK_ret]
  refine bX12_rate_6 (x_in ?_)
  rw [KK_ret]
  have e1 : ((500 : Int32).toInt ≤ y.toInt ∧ y.toInt ≤ (1500 : Int32).toInt) = (500 ≤ y.toInt ∧ y.toInt ≤ 1500) := rfl
  rw [decide_eq_decide.mpr (iff_of_eq e1)]
  by_cases cx : 0 ≤ x.toInt ∧ x.toInt < n
  · by_cases cy : 500 ≤ y.toInt ∧ y.toInt ≤ 1500
    · rw [decide_eq_true cx, decide_eq_true cy]
      refine bX12_rate_16 ⟨by decide, q0 hr hM, x_goes (a := true) (b := true) (g := true) hr hM ?_⟩
      intro h1 hr1
      rw [KK_ret]
      obtain ⟨m, hm, hmn⟩ := o_in cx (by omega)
      have kk := k m hm hmn cy
      subst hm
      have hM1 : u2 M 50 0 0 1000 0 = 0 := hM
      have hr1' : RC S F e (u2 M 50 0 0, G, c) h1 := hr1
      have e4 : hI h1 1204 210 = M 4 0 := qI_4 (M := u2 M 50 0 0) hr1 hM1
      have r1 : RC S F e (stepS (u2 M 50 0 0), G, c) (sI h1 1204 210 (M 4 0 + 1)) := rm_4 (M 4 0 + 1) hr1
      have r2 := rm_8 m (FP.fdiv (FP.i2f y) (1148846080 : UInt32)) r1
      have a7 := qA_7 r2 hM
      refine bX12_rate_20 ⟨fun _ => ?_, fun w => absurd (by decide) w⟩
      simp (disch := omega) only [q0 hr1' hM1, qR_8 hr1' hM1, qK_8 hr1' hM1, qi_8 hr1' hM1, qA_8 hr1' hM1, qR_7 hr1' hM1, qK_7 hr1' hM1, qi_7 hr1' hM1, qA_7 hr1' hM1, e4, a7, o_c, o_add, o_addn, o_nadd, o_muln, o_le, o_lt, o_nle, o_len, o_nlt, o_ltn, o_eq, o_eqn, o_neq, o_sub1, true_and]
      exact ⟨hnn, kk _ r2⟩
    · rw [decide_eq_true cx, decide_eq_false cy]
      refine bX12_rate_16 ⟨by decide, q0 hr hM, x_goes (a := true) (b := false) (g := true) hr hM ?_⟩
      intro h1 hr1
      rw [KK_ret]
      exact bX12_rate_20 ⟨fun w => absurd rfl w, fun _ => k1 cx cy h1 hr1⟩
  · rw [decide_eq_false cx]
    refine bX12_rate_16 ⟨by decide, q0 hr hM, x_goes (a := false) (g := true) hr hM ?_⟩
    intro h1 hr1
    rw [KK_ret]
    exact bX12_rate_20 ⟨fun w => absurd rfl w, fun _ => k3 cx h1 hr1⟩
theorem x_spans (hr : RC S F e (M, G, c) h) (hM : M 1000 0 = 0) {x y : Int32} (n1 : nn32 (FP.fdiv (FP.i2f x) (1092616192 : UInt32)) = true) (n2 : nn32 (FP.fdiv (FP.i2f y) (1120403456 : UInt32)) = true) (k1 : ¬ ((1 ≤ x.toInt ∧ x.toInt ≤ 1000) ∧ (0 ≤ y.toInt ∧ y.toInt ≤ 90)) → ∀ h', RC S F e (u2 M 50 0 1, G, c) h' → Q (.inl none) h') (k : (1 ≤ x.toInt ∧ x.toInt ≤ 1000) ∧ (0 ≤ y.toInt ∧ y.toInt ≤ 90) → ∀ h', RC S F e (stepS (u2 M 50 0 0), u2 (u2 G 2 0 (FP.fdiv (FP.i2f x) (1092616192 : UInt32))) 3 0 (FP.fdiv (FP.i2f y) (1120403456 : UInt32)), c) h' → Q (.inl none) h') : WP (d + 1) mX12_spans 0 [some (.ref 210), some (.int x), some (.int y)] [] h Q := by
  have bad : ¬ ((1 ≤ x.toInt ∧ x.toInt ≤ 1000) ∧ (0 ≤ y.toInt ∧ y.toInt ≤ 90)) → WP d mX12_goes 0 [some (.ref 210), some (.int (b2i false)), some (.int (b2i true)), some (.int (b2i true))] [] h (KK d mX12_spans mX12_goes 29 [some (.ref 210), some (.int x), some (.int y)] [] Q) := by
    intro cx
    refine x_goes hr hM ?_
    intro h1 hr1
    rw [KK_ret]
    exact bX12_spans_32 ⟨fun _ => k1 cx h1 hr1, fun w => absurd rfl w⟩
  refine bX12_spans_0 (x_in ?_)
  rw [KK_ret]
  have e1 : ((1 : Int32).toInt ≤ x.toInt ∧ x.toInt ≤ (1000 : Int32).toInt) = (1 ≤ x.toInt ∧ x.toInt ≤ 1000) := rfl
  have e2 : ((0 : Int32).toInt ≤ y.toInt ∧ y.toInt ≤ (90 : Int32).toInt) = (0 ≤ y.toInt ∧ y.toInt ≤ 90) := rfl
  rw [decide_eq_decide.mpr (iff_of_eq e1)]
  refine bX12_spans_9 ⟨fun c1 => ?_, fun c1 => x_in ?_⟩
  · rw [b2i_z] at c1
    exact ⟨by decide, q0 hr hM, bad (fun w => of_decide_eq_false c1 w.1)⟩
  · rw [b2i_z] at c1
    have c1' : 1 ≤ x.toInt ∧ x.toInt ≤ 1000 := by simpa using c1
    rw [KK_ret, decide_eq_decide.mpr (iff_of_eq e2)]
    refine bX12_spans_19 ⟨fun c2 => ?_, fun c2 => ?_⟩
    · rw [b2i_z] at c2
      exact ⟨by decide, q0 hr hM, bad (fun w => of_decide_eq_false c2 w.2)⟩
    · rw [b2i_z] at c2
      have c2' : 0 ≤ y.toInt ∧ y.toInt ≤ 90 := by simpa using c2
      refine ⟨by decide, q0 hr hM, x_goes (a := true) (b := true) (g := true) hr hM ?_⟩
      intro h1 hr1
      rw [KK_ret]
      have hM1 : u2 M 50 0 0 1000 0 = 0 := hM
      have hr1' : RC S F e (u2 M 50 0 0, G, c) h1 := hr1
      have e4 : hI h1 1204 210 = M 4 0 := qI_4 (M := u2 M 50 0 0) hr1 hM1
      refine bX12_spans_32 ⟨fun w => absurd w (by decide), fun _ => ⟨q0 hr1' hM1, n1, n2, ?_⟩⟩
      rw [e4]
      exact k ⟨c1', c2'⟩ _ (rm_3 _ (rm_2 _ (rm_4 (M 4 0 + 1) hr1)))
theorem x_pass_47 (hM : M 1000 0 = 0) (hn : M 0 0 = Int32.ofNat n) (hn5 : n ≤ 5) {x : Int32} {v : UInt32} (n1 : ∀ m, m < n → nn32 (FP.fmul v (G 8 m)) = true ∧ nn32 (FP.fadd (G 7 m) (FP.fmul v (G 8 m))) = true) (k : ∀ h', RC S F e (M, passF G v n, c) h' → Q (.inl (some (.float (FP.fadd (G 1 0) v)))) h') :
    ∀ (m j : Nat) (h : HP), j + m = n → RC S F e (M, passF G v j, c) h → WP d mX12_pass 47 [some (.ref 210), some (.int x), some (.float v), some (.int (Int32.ofNat j))] [] h Q := by
  have f8 : ∀ j q, passF G v j 8 q = G 8 q := by
    intro j q
    induction j with
    | zero => rfl
    | succ j ih => exact ih
  have f7 : ∀ j q, j ≤ q → passF G v j 7 q = G 7 q := by
    intro j q hj
    induction j with
    | zero => rfl
    | succ j ih => exact (u2_ne (by omega)).trans (ih (by omega))
  have f1 : ∀ j, passF G v j 1 0 = FP.fadd (G 1 0) v := by
    intro j
    induction j with
    | zero => rfl
    | succ j ih => exact ih
  intro m
  induction m with
  | zero =>
    intro j h hj hr
    obtain rfl : j = n := by omega
    refine bX12_pass_47 ⟨q0 hr hM, ?_⟩
    rw [qI_0 hr hM, hn, o_le _ _ (by omega) (by omega), qI_1 hr hM, f1]
    exact ⟨fun _ => k h hr, fun w => absurd (Nat.le_refl _) w⟩
  | succ m ih =>
    intro j h hj hr
    refine bX12_pass_47 ⟨q0 hr hM, ?_⟩
    rw [qI_0 hr hM, hn, o_le _ _ (by omega) (by omega)]
    simp (disch := omega) only [q0 hr hM, qR_7 hr hM, qK_7 hr hM, qi_7 hr hM, qA_7 hr hM, qR_8 hr hM, qK_8 hr hM, qi_8 hr hM, qA_8 hr hM, f8, f7 j j (Nat.le_refl _), o_c, o_add, o_addn, o_nadd, o_muln, o_le, o_lt, o_nle, o_len, o_nlt, o_ltn, o_eq, o_eqn, o_neq, o_sub1, true_and]
    exact ⟨fun w => by omega, fun _ => ⟨(n1 j (by omega)).1, (n1 j (by omega)).2, ih (j + 1) _ (by omega) (rm_7 j _ hr)⟩⟩
theorem x_pass (hr : RC S F e (M, G, c) h) (hM : M 1000 0 = 0) (hn : M 0 0 = Int32.ofNat n) (hn5 : n = 3 ∨ n = 5) {x : Int32} {u1 u2' : Option Value} (n0 : nn32 (FP.fdiv (FP.i2f x) (1092616192 : UInt32)) = true) (n2 : nn32 (FP.fadd (G 1 0) (FP.fdiv (FP.i2f x) (1092616192 : UInt32))) = true) (n1 : ∀ m, m < n → nn32 (FP.fmul (FP.fdiv (FP.i2f x) (1092616192 : UInt32)) (G 8 m)) = true ∧ nn32 (FP.fadd (G 7 m) (FP.fmul (FP.fdiv (FP.i2f x) (1092616192 : UInt32)) (G 8 m))) = true) (k1 : ¬ (1 ≤ x.toInt ∧ x.toInt ≤ 1000) → ∀ h', RC S F e (u2 M 50 0 1, G, c) h' → Q (.inl (some (.float FP.fconst0))) h') (k : (1 ≤ x.toInt ∧ x.toInt ≤ 1000) → ∀ h', RC S F e (stepS (u2 M 50 0 0), passF G (FP.fdiv (FP.i2f x) (1092616192 : UInt32)) n, c) h' → Q (.inl (some (.float (FP.fadd (G 1 0) (FP.fdiv (FP.i2f x) (1092616192 : UInt32)))))) h') : WP (d + 1) mX12_pass 0 [some (.ref 210), some (.int x), u1, u2'] [] h Q := by
  refine bX12_pass_0 (x_in ?_)
  rw [KK_ret]
  have e1 : ((1 : Int32).toInt ≤ x.toInt ∧ x.toInt ≤ (1000 : Int32).toInt) = (1 ≤ x.toInt ∧ x.toInt ≤ 1000) := rfl
  rw [decide_eq_decide.mpr (iff_of_eq e1)]
  refine bX12_pass_9 ⟨by decide, q0 hr hM, x_goes (b := true) (g := true) hr hM ?_⟩
  intro h1 hr1
  rw [KK_ret]
  by_cases cx : 1 ≤ x.toInt ∧ x.toInt ≤ 1000
  · rw [decide_eq_true cx] at hr1 ⊢
    have hM1 : u2 M 50 0 0 1000 0 = 0 := hM
    have hr1' : RC S F e (u2 M 50 0 0, G, c) h1 := hr1
    have e4 : hI h1 1204 210 = M 4 0 := qI_4 (M := u2 M 50 0 0) hr1 hM1
    have eF : hF h1 1201 210 = G 1 0 := qI_1 hr1' hM1
    refine bX12_pass_14 ⟨fun _ => ⟨q0 hr1' hM1, n0, ?_⟩, fun w => absurd (by decide) w⟩
    rw [e4, eF]
    exact ⟨n2, x_pass_47 (S := S) (F := F) (e := e) (G := G) (c := c) (M := stepS (u2 M 50 0 0)) hM hn (by omega) n1 (k cx) n 0 _ (Nat.zero_add _) (rm_1 _ (rm_4 (M 4 0 + 1) hr1))⟩
  · rw [decide_eq_false cx] at hr1 ⊢
    exact bX12_pass_14 ⟨fun w => absurd rfl w, fun _ => k1 cx h1 hr1⟩
end REFF
