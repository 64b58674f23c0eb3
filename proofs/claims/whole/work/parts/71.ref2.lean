/-! ===== the reference: begins, ends, sends, leaves ===== -/
section REFB
variable {S : SI} {F : SF} {e : EX} {M : SI} {G : SF} {c : Nat × Nat × Nat × (Nat → Int32)} {h : HP} {d : Nat} {Q : Out → HP → Prop} {n j l : Nat}
theorem renJ_ref : u2 (u2 (u2 (u2 (u2 (u2 (u2 (u2 (u2 (renJ M j l) 5 j 1) 9 j 0) 10 j (-1)) 11 j 0) 12 j 0) 13 j 0) 18 j 0) 23 j 0) 25 j (-1) = renJ M (j + 1) l := by
  funext s k
  by_cases c : k = j
  · subst c
    have cases : s = 5 ∨ s = 9 ∨ s = 10 ∨ s = 11 ∨ s = 12 ∨ s = 13 ∨ s = 18 ∨ s = 23 ∨ s = 25 ∨ (s ≠ 5 ∧ s ≠ 9 ∧ s ≠ 10 ∧ s ≠ 11 ∧ s ≠ 12 ∧ s ≠ 13 ∧ s ≠ 18 ∧ s ≠ 23 ∧ s ≠ 25) := by omega
    rcases cases with rfl | rfl | rfl | rfl | rfl | rfl | rfl | rfl | rfl | ⟨h1, h2, h3, h4, h5, h6, h7, h8, h9⟩
    · simp [u2, renJ]
    · simp [u2, renJ]
    · simp [u2, renJ]
    · simp [u2, renJ]
    · simp [u2, renJ]
    · simp [u2, renJ]
    · simp [u2, renJ]
    · simp [u2, renJ]
    · simp [u2, renJ]
    · simp [u2, renJ, h1, h2, h3, h4, h5, h6, h7, h8, h9]
  · rw [u2_ne (by omega), u2_ne (by omega), u2_ne (by omega), u2_ne (by omega), u2_ne (by omega), u2_ne (by omega), u2_ne (by omega), u2_ne (by omega), u2_ne (by omega)]
    have z : (k < j) = (k < j + 1) := propext ⟨fun w => by omega, fun w => by omega⟩
    unfold renJ
    simp only [z]
theorem renJ_00 : renJ M 0 0 = M := by
  funext s k
  unfold renJ
  rw [if_neg (by omega), if_neg (by omega), if_neg (by omega), if_neg (by omega), if_neg (by omega), if_neg (by omega), if_neg (by omega), if_neg (by omega), if_neg (by omega), if_neg (by omega)]
theorem renF_0 : renF G 0 = G := by
  funext s k
  unfold renF
  rw [if_neg (by omega), if_neg (by omega)]
theorem x_begins_149 {x : Int32} (hM : M 1000 0 = 0) (k : ∀ h', RC S F e (renJ M 0 20, G, c) h' → Q (.inl none) h') :
    ∀ (m j : Nat) (h : HP), j + m = 20 → RC S F e (renJ M 0 j, G, c) h → WP d mX12_begins 149 [some (.ref 210), some (.int x), some (.int (Int32.ofNat j))] [] h Q := by
  intro m
  induction m with
  | zero =>
    intro j h hj hr
    obtain rfl : j = 20 := by omega
    exact bX12_begins_149 ⟨fun _ => k h hr, fun c => absurd (by decide) c⟩
  | succ m ih =>
    intro j h hj hr
    have hM' : renJ M 0 j 1000 0 = 0 := hM
    refine bX12_begins_149 ?_
    have hM := hM'
    simp (disch := omega) only [q0 hr hM, qR_27 hr hM, qK_27 hr hM, qi_27 hr hM, qA_27 hr hM, qR_28 hr hM, qK_28 hr hM, qi_28 hr hM, qA_28 hr hM, qR_29 hr hM, qK_29 hr hM, qi_29 hr hM, qA_29 hr hM, qR_30 hr hM, qK_30 hr hM, qi_30 hr hM, qA_30 hr hM, qR_31 hr hM, qK_31 hr hM, qi_31 hr hM, qA_31 hr hM, o_c, o_add, o_addn, o_nadd, o_muln, o_le, o_lt, o_nle, o_len, o_nlt, o_ltn, o_eq, o_eqn, o_neq, o_sub1, true_and]
    refine ⟨fun c => absurd c (show ¬ 20 ≤ j by omega), fun _ => ih (j + 1) _ (by omega) ?_⟩
    rw [← renJ_ch]
    exact rm_31 j (-1) (rm_30 j (-1) (rm_29 j (-1) (rm_28 j (-1) (rm_27 j (-1) hr))))
theorem x_begins_128 {x : Int32} (hM : M 1000 0 = 0) (k : ∀ h', RC S F e (renJ (cutJ M 25) 0 20, G, c) h' → Q (.inl none) h') :
    ∀ (m j : Nat) (h : HP), j + m = 25 → RC S F e (cutJ M j, G, c) h → WP d mX12_begins 128 [some (.ref 210), some (.int x), some (.int (Int32.ofNat j))] [] h Q := by
  intro m
  induction m with
  | zero =>
    intro j h hj hr
    obtain rfl : j = 25 := by omega
    refine bX12_begins_128 ⟨fun _ => x_begins_149 (M := cutJ M 25) hM k 20 0 h rfl ?_, fun c => absurd (by decide) c⟩
    rw [renJ_00]
    exact hr
  | succ m ih =>
    intro j h hj hr
    have hM' : cutJ M j 1000 0 = 0 := hM
    refine bX12_begins_128 ?_
    have hM := hM'
    simp (disch := omega) only [q0 hr hM, qR_6 hr hM, qK_6 hr hM, qi_6 hr hM, qA_6 hr hM, o_c, o_add, o_addn, o_nadd, o_muln, o_le, o_lt, o_nle, o_len, o_nlt, o_ltn, o_eq, o_eqn, o_neq, o_sub1, true_and]
    refine ⟨fun c => absurd c (show ¬ 25 ≤ j by omega), fun _ => ih (j + 1) _ (by omega) ?_⟩
    rw [← cutJ_succ]
    exact rm_6 j 0 hr
theorem x_begins_38 {x : Int32} (hM : M 1000 0 = 0) (k : ∀ h', RC S F e (renJ (cutJ (renJ M 5 0) 25) 0 20, renF G 5, c) h' → Q (.inl none) h') :
    ∀ (m j : Nat) (h : HP), j + m = 5 → RC S F e (renJ M j 0, renF G j, c) h → WP d mX12_begins 38 [some (.ref 210), some (.int x), some (.int (Int32.ofNat j))] [] h Q := by
  intro m
  induction m with
  | zero =>
    intro j h hj hr
    obtain rfl : j = 5 := by omega
    refine bX12_begins_38 ⟨fun _ => x_begins_128 (M := renJ M 5 0) hM k 25 0 h rfl ?_, fun c => absurd (by decide) c⟩
    have e : cutJ (renJ M 5 0) 0 = renJ M 5 0 := by
      funext s k
      unfold cutJ
      rw [if_neg (by omega)]
    rw [e]
    exact hr
  | succ m ih =>
    intro j h hj hr
    have hM' : renJ M j 0 1000 0 = 0 := hM
    have r10 := rm_23 j 0 (rm_18 j 0 (rm_13 j 0 (rm_12 j 0 (rm_11 j 0 (rm_10 j (-1) (rm_9 j 0 (rm_8 j FP.fconst1 (rm_7 j FP.fconst0 (rm_5 j 1 hr)))))))))
    have r11 := rm_25 j (-1) r10
    rw [renJ_ref, renF_mach] at r11
    refine bX12_begins_38 ?_
    have hM := hM'
    simp (disch := omega) only [q0 hr hM, qR_5 hr hM, qK_5 hr hM, qi_5 hr hM, qA_5 hr hM, qR_7 hr hM, qK_7 hr hM, qi_7 hr hM, qA_7 hr hM, qR_8 hr hM, qK_8 hr hM, qi_8 hr hM, qA_8 hr hM, qR_9 hr hM, qK_9 hr hM, qi_9 hr hM, qA_9 hr hM, qR_10 hr hM, qK_10 hr hM, qi_10 hr hM, qA_10 hr hM, qR_11 hr hM, qK_11 hr hM, qi_11 hr hM, qA_11 hr hM, qR_12 hr hM, qK_12 hr hM, qi_12 hr hM, qA_12 hr hM, qR_13 hr hM, qK_13 hr hM, qi_13 hr hM, qA_13 hr hM, qR_18 hr hM, qK_18 hr hM, qi_18 hr hM, qA_18 hr hM, qR_23 hr hM, qK_23 hr hM, qi_23 hr hM, qA_23 hr hM, o_c, o_add, o_addn, o_nadd, o_muln, o_le, o_lt, o_nle, o_len, o_nlt, o_ltn, o_eq, o_eqn, o_neq, o_sub1, true_and]
    refine ⟨fun c => absurd c (show ¬ 5 ≤ j by omega), fun _ => bX12_begins_113 ?_⟩
    have hM2 : (u2 (u2 (u2 (u2 (u2 (u2 (u2 (u2 (renJ M j 0) 5 j 1) 9 j 0) 10 j (-1)) 11 j 0) 12 j 0) 13 j 0) 18 j 0) 23 j 0) 1000 0 = 0 := hM
    rw [qR_25 r10 hM2, qK_25 r10 hM2, o_c _ (by omega), o_addn]
    exact ⟨q0 r10 hM2, rfl, qi_25 r10 hM2 (by omega), ih (j + 1) _ (by omega) r11⟩
theorem begin_ref {x : Int32} : renJ (cutJ (renJ (u2 (u2 (u2 (u2 M 0 0 x) 4 0 0) 39 0 0) 47 0 0) 5 0) 25) 0 20 = beginS M x := by
  funext s k
  have cases : s = 0 ∨ s = 4 ∨ s = 39 ∨ s = 47 ∨ s = 5 ∨ s = 6 ∨ s = 9 ∨ s = 10 ∨ s = 11 ∨ s = 12 ∨ s = 13 ∨ s = 18 ∨ s = 23 ∨ s = 25 ∨ s = 27 ∨ s = 28 ∨ s = 29 ∨ s = 30 ∨ s = 31 ∨ (s ≠ 0 ∧ s ≠ 4 ∧ s ≠ 39 ∧ s ≠ 47 ∧ s ≠ 5 ∧ s ≠ 6 ∧ s ≠ 9 ∧ s ≠ 10 ∧ s ≠ 11 ∧ s ≠ 12 ∧ s ≠ 13 ∧ s ≠ 18 ∧ s ≠ 23 ∧ s ≠ 25 ∧ s ≠ 27 ∧ s ≠ 28 ∧ s ≠ 29 ∧ s ≠ 30 ∧ s ≠ 31) := by omega
  rcases cases with rfl | rfl | rfl | rfl | rfl | rfl | rfl | rfl | rfl | rfl | rfl | rfl | rfl | rfl | rfl | rfl | rfl | rfl | rfl | ⟨h1, h2, h3, h4, h5, h6, h7, h8, h9, h10, h11, h12, h13, h14, h15, h16, h17, h18, h19⟩
  all_goals simp only [renJ, u2, cutJ, beginS]
  all_goals try simp
  · all_goals simp [h1, h2, h3, h4, h5, h6, h7, h8, h9, h10, h11, h12, h13, h14, h15, h16, h17, h18, h19]
    all_goals (intro a b; omega)
theorem begin_refF : renF (u2 (u2 (u2 G 1 0 FP.fconst0) 2 0 1092616192) 3 0 FP.fconst0) 5 = beginF G := by
  funext s k
  have cases : s = 1 ∨ s = 2 ∨ s = 3 ∨ s = 7 ∨ s = 8 ∨ (s ≠ 1 ∧ s ≠ 2 ∧ s ≠ 3 ∧ s ≠ 7 ∧ s ≠ 8) := by omega
  rcases cases with rfl | rfl | rfl | rfl | rfl | ⟨h1, h2, h3, h4, h5⟩
  all_goals simp only [renF, u2, beginF]
  all_goals try simp
  all_goals simp [h1, h2, h3, h4, h5]
theorem x_begins (hr : RC S F e (M, G, c) h) (hM : M 1000 0 = 0) {x : Int32} {u : Option Value} (k : ∀ h', RC S F e (beginS M x, beginF G, c) h' → Q (.inl none) h') : WP d mX12_begins 0 [some (.ref 210), some (.int x), u] [] h Q := by
  refine bX12_begins_0 ⟨q0 hr hM, ?_⟩
  have r := rm_47 0 (rm_39 0 (rm_4 0 (rm_3 FP.fconst0 (rm_2 1092616192 (rm_1 FP.fconst0 (rm_0 x hr))))))
  refine x_begins_38 (S := S) (F := F) (e := e) (c := c) (M := u2 (u2 (u2 (u2 M 0 0 x) 4 0 0) 39 0 0) 47 0 0) (G := u2 (u2 (u2 G 1 0 FP.fconst0) 2 0 1092616192) 3 0 FP.fconst0) hM ?_ 5 0 _ rfl ?_
  · intro h' hr'
    rw [begin_ref, begin_refF] at hr'
    exact k h' hr'
  · rw [renJ_00, renF_0]
    exact r
theorem x_begin (hr : RC S F e (M, G, c) h) (hM : M 1000 0 = 0) {x : Int32} {u : Option Value} (k1 : ¬ (x = 3 ∨ x = 5) → ∀ h', RC S F e (u2 M 50 0 1, G, c) h' → Q (.inl (some (.int 0))) h') (k : (x = 3 ∨ x = 5) → ∀ h', RC S F e (beginS (u2 M 50 0 0) x, beginF G, c) h' → Q (.inl (some (.int (M 0 0)))) h') : WP (d + 1) mX12_begin 0 [some (.ref 210), some (.int x), u] [] h Q := by
  have go : (x = 3 ∨ x = 5) → WP d mX12_goes 0 [some (.ref 210), some (.int 1), some (.int 1), some (.int 1)] [] h (KK d mX12_begin mX12_goes 18 [some (.ref 210), some (.int x), u] [] Q) := by
    intro cx
    refine x_goes (a := true) (b := true) (g := true) hr hM ?_
    intro h1 hr1
    rw [KK_ret]
    have hM1 : u2 M 50 0 (gcode true true true) 1000 0 = 0 := hM
    refine bX12_begin_21 ⟨fun _ => ⟨q0 hr1 hM1, by decide, x_begins hr1 hM1 ?_⟩, fun q => absurd (by decide) q⟩
    intro h2 hr2
    rw [KK_ret]
    have e00 := qI_0 hr1 hM1
    have e0 : hI h1 1200 210 = M 0 0 := e00
    rw [e0]
    exact bX12_begin_36 (k cx h2 hr2)
  refine bX12_begin_0 ⟨fun q => ⟨by decide, q0 hr hM, go (Or.inl q)⟩, fun q => ⟨fun q2 => ⟨by decide, q0 hr hM, ?_⟩, fun q2 => ⟨by decide, q0 hr hM, go (Or.inr (Classical.not_not.mp q2))⟩⟩⟩
  refine x_goes (a := false) (b := true) (g := true) hr hM ?_
  intro h1 hr1
  rw [KK_ret]
  exact bX12_begin_21 ⟨fun w => absurd rfl w, fun _ => k1 (fun w => w.elim q q2) h1 hr1⟩
/-- whether an entry of machine i agrees with act a -/
def AG (M : SI) (a i k : Nat) : Prop := M 11 i = 2 ∧ M 15 (30 * i + k) = M 42 a ∧ M 16 (30 * i + k) = M 43 a
theorem agrB_iff {a : Nat} : agrB M a = true ↔ ∃ i, i < nt (M 0 0) ∧ ∃ k, k < nt (M 13 i) ∧ AG M a i k := by
  unfold agrB AG
  simp only [List.any_eq_true, List.mem_range, Bool.and_eq_true, decide_eq_true_eq]
  constructor
  · rintro ⟨i, hi, h2, k, hk, h3⟩
    exact ⟨i, hi, k, hk, h2, h3⟩
  · rintro ⟨i, hi, k, hk, h2, h3⟩
    exact ⟨i, hi, h2, k, hk, h3⟩
theorem x_agr_15 (hr : RC S F e (M, G, c) h) (hM : M 1000 0 = 0) {a i ci : Nat} (ha : a < 14) (hi : i < 5) (hc : M 13 i = Int32.ofNat ci) (hc30 : ci ≤ 30) (kt : ∀ k, k < ci → AG M a i k → Q (.inl (some (.int 1))) h) (kf : (∀ k, k < ci → ¬ AG M a i k) → ∀ z, WP d mX12_isAgreedAt 2 [some (.ref 210), some (.int (Int32.ofNat a)), some (.int (Int32.ofNat (i + 1))), some (.int z)] [] h Q) :
    ∀ (m k : Nat), k + m = ci → (∀ q, q < k → ¬ AG M a i q) → WP d mX12_isAgreedAt 15 [some (.ref 210), some (.int (Int32.ofNat a)), some (.int (Int32.ofNat i)), some (.int (Int32.ofNat (30 * i + k)))] [] h Q := by
  intro m
  induction m with
  | zero =>
    intro k hk hq
    obtain rfl : k = ci := by omega
    refine bX12_isAgreedAt_15 ?_
    simp (disch := omega) only [q0 hr hM, qR_13 hr hM, qK_13 hr hM, qi_13 hr hM, qA_13 hr hM, qR_11 hr hM, qK_11 hr hM, qi_11 hr hM, qA_11 hr hM, qR_15 hr hM, qK_15 hr hM, qi_15 hr hM, qA_15 hr hM, qR_42 hr hM, qK_42 hr hM, qi_42 hr hM, qA_42 hr hM, qR_16 hr hM, qK_16 hr hM, qi_16 hr hM, qA_16 hr hM, qR_43 hr hM, qK_43 hr hM, qi_43 hr hM, qA_43 hr hM, hc, o_c, o_add, o_addn, o_nadd, o_muln, o_le, o_lt, o_nle, o_len, o_nlt, o_ltn, o_eq, o_eqn, o_neq, o_sub1, true_and]
    exact ⟨fun _ => kf hq _, fun q => absurd (Nat.le_refl _) q⟩
  | succ m ih =>
    intro k hk hq
    refine bX12_isAgreedAt_15 ?_
    simp (disch := omega) only [q0 hr hM, qR_13 hr hM, qK_13 hr hM, qi_13 hr hM, qA_13 hr hM, qR_11 hr hM, qK_11 hr hM, qi_11 hr hM, qA_11 hr hM, qR_15 hr hM, qK_15 hr hM, qi_15 hr hM, qA_15 hr hM, qR_42 hr hM, qK_42 hr hM, qi_42 hr hM, qA_42 hr hM, qR_16 hr hM, qK_16 hr hM, qi_16 hr hM, qA_16 hr hM, qR_43 hr hM, qK_43 hr hM, qi_43 hr hM, qA_43 hr hM, hc, o_c, o_add, o_addn, o_nadd, o_muln, o_le, o_lt, o_nle, o_len, o_nlt, o_ltn, o_eq, o_eqn, o_neq, o_sub1, true_and]
    refine ⟨fun q => by omega, fun _ => ⟨fun q1 => kf (fun k2 _ w => q1 w.1) _, fun q1 => ⟨fun q2 => ?_, fun q2 => ⟨fun q3 => ?_, fun q3 => ?_⟩⟩⟩⟩
    · refine ih (k + 1) (by omega) (fun q hq2 => ?_)
      by_cases c2 : q = k
      · subst c2; exact fun w => q2 w.2.1
      · exact hq q (by omega)
    · refine ih (k + 1) (by omega) (fun q hq2 => ?_)
      by_cases c2 : q = k
      · subst c2; exact fun w => q3 w.2.2
      · exact hq q (by omega)
    · exact kt k (by omega) ⟨Classical.not_not.mp q1, Classical.not_not.mp q2, Classical.not_not.mp q3⟩
theorem x_agr_2 (hr : RC S F e (M, G, c) h) (hM : M 1000 0 = 0) (hn : M 0 0 = Int32.ofNat n) (hn5 : n ≤ 5) {a : Nat} (ha : a < 14) (hc : ∀ i, i < n → ∃ ci, M 13 i = Int32.ofNat ci ∧ ci ≤ 30) (k : Q (.inl (some (.int (b2i (agrB M a))))) h) :
    ∀ (m i : Nat) (u : Option Value), i + m = n → (∀ i2, i2 < i → ∀ k, k < nt (M 13 i2) → ¬ AG M a i2 k) → WP d mX12_isAgreedAt 2 [some (.ref 210), some (.int (Int32.ofNat a)), some (.int (Int32.ofNat i)), u] [] h Q := by
  have hnn : nt (M 0 0) = n := nt_of hn (by omega)
  intro m
  induction m with
  | zero =>
    intro i u hi hq
    obtain rfl : i = n := by omega
    refine bX12_isAgreedAt_2 ⟨q0 hr hM, ?_⟩
    rw [qI_0 hr hM, hn, o_le _ _ (by omega) (by omega)]
    have hf : agrB M a = false := by
      cases hb : agrB M a with
      | false => rfl
      | true =>
        obtain ⟨i2, h1, k2, h2, h3⟩ := agrB_iff.mp hb
        exact absurd h3 (hq i2 (by omega) k2 h2)
    rw [hf] at k
    exact ⟨fun _ => k, fun q => absurd (Nat.le_refl _) q⟩
  | succ m ih =>
    intro i u hi hq
    obtain ⟨ci, hci, hc30⟩ := hc i (by omega)
    have hnc : nt (M 13 i) = ci := nt_of hci (by omega)
    refine bX12_isAgreedAt_2 ⟨q0 hr hM, ?_⟩
    rw [qI_0 hr hM, hn, o_le _ _ (by omega) (by omega), o_muln]
    refine ⟨fun q => by omega, fun _ => x_agr_15 hr hM ha (by omega) hci hc30 (fun k2 h2 h3 => ?_) (fun hnone z => ih (i + 1) _ (by omega) (fun i2 h2 => ?_)) ci 0 (Nat.zero_add _) (fun q hq => by omega)⟩
    · have ht : agrB M a = true := agrB_iff.mpr ⟨i, by omega, k2, by omega, h3⟩
      rw [ht] at k
      exact k
    · by_cases c2 : i2 = i
      · subst c2
        intro k2 h3
        exact hnone k2 (by omega)
      · exact hq i2 (by omega)
/-- the first j acts ended -/
def endsJ (M : SI) (j : Nat) : SI := fun s k => if s = 46 ∧ (k < j ∧ M 41 k = 1 ∧ M 46 k = -1 ∧ agrB M k = true) then M 4 0 else M s k
theorem endsJ_ne {s : Nat} (hs : s ≠ 46) : endsJ M j s = M s := by
  funext k
  unfold endsJ
  rw [if_neg (fun q => hs q.1)]
theorem endsJ_hi {a : Nat} (hk : j ≤ a) : endsJ M j 46 a = M 46 a := by
  unfold endsJ
  rw [if_neg (by omega)]
theorem agrB_endsJ {a : Nat} : agrB (endsJ M j) a = agrB M a := by
  unfold agrB
  rw [endsJ_ne (by decide), endsJ_ne (by decide), endsJ_ne (by decide), endsJ_ne (by decide), endsJ_ne (by decide), endsJ_ne (by decide), endsJ_ne (by decide)]
theorem endsJ_skip (hc : ¬ (M 41 j = 1 ∧ M 46 j = -1 ∧ agrB M j = true)) : endsJ M (j + 1) = endsJ M j := by
  funext s k
  show (if s = 46 ∧ (k < j + 1 ∧ M 41 k = 1 ∧ M 46 k = -1 ∧ agrB M k = true) then M 4 0 else M s k) = (if s = 46 ∧ (k < j ∧ M 41 k = 1 ∧ M 46 k = -1 ∧ agrB M k = true) then M 4 0 else M s k)
  by_cases c : k = j
  · subst c
    rw [if_neg (fun q => hc ⟨q.2.2.1, q.2.2.2.1, q.2.2.2.2⟩), if_neg (by omega)]
  · by_cases c2 : s = 46 ∧ (k < j ∧ M 41 k = 1 ∧ M 46 k = -1 ∧ agrB M k = true)
    · rw [if_pos c2, if_pos ⟨c2.1, by omega, c2.2.2.1, c2.2.2.2.1, c2.2.2.2.2⟩]
    · rw [if_neg c2, if_neg (fun q => c2 ⟨q.1, by omega, q.2.2.1, q.2.2.2.1, q.2.2.2.2⟩)]
theorem endsJ_do (hc : M 41 j = 1 ∧ M 46 j = -1 ∧ agrB M j = true) : endsJ M (j + 1) = u2 (endsJ M j) 46 j (M 4 0) := by
  funext s k
  show (if s = 46 ∧ (k < j + 1 ∧ M 41 k = 1 ∧ M 46 k = -1 ∧ agrB M k = true) then M 4 0 else M s k) = (if s = 46 ∧ k = j then M 4 0 else if s = 46 ∧ (k < j ∧ M 41 k = 1 ∧ M 46 k = -1 ∧ agrB M k = true) then M 4 0 else M s k)
  by_cases c : s = 46 ∧ k = j
  · rw [if_pos c, c.2, if_pos ⟨c.1, by omega, hc.1, hc.2.1, hc.2.2⟩]
  · rw [if_neg c]
    by_cases c2 : s = 46 ∧ (k < j ∧ M 41 k = 1 ∧ M 46 k = -1 ∧ agrB M k = true)
    · rw [if_pos c2, if_pos ⟨c2.1, by omega, c2.2.2.1, c2.2.2.2.1, c2.2.2.2.2⟩]
    · rw [if_neg c2, if_neg (fun q => c2 ⟨q.1, by omega, q.2.2.1, q.2.2.2.1, q.2.2.2.2⟩)]
theorem x_ends_2 (hM : M 1000 0 = 0) (hn : M 0 0 = Int32.ofNat n) (hn5 : n ≤ 5) {na : Nat} (ha : M 47 0 = Int32.ofNat na) (ha14 : na ≤ 14) (hz : ∀ a, a < na → M 41 a = 0 ∨ M 41 a = 1) (hc : ∀ i, i < n → ∃ ci, M 13 i = Int32.ofNat ci ∧ ci ≤ 30) (k : ∀ h', RC S F e (endsJ M na, G, c) h' → Q (.inl none) h') :
    ∀ (m j : Nat) (h : HP), j + m = na → RC S F e (endsJ M j, G, c) h → WP (d + 1) mX12_ends 2 [some (.ref 210), some (.int (Int32.ofNat j))] [] h Q := by
  intro m
  induction m with
  | zero =>
    intro j h hj hr
    obtain rfl : j = na := by omega
    have hM' : endsJ M j 1000 0 = 0 := hM
    refine bX12_ends_2 ⟨q0 hr hM', ?_⟩
    rw [qI_47 hr hM', endsJ_ne (by decide), ha, o_le _ _ (by omega) (by omega)]
    exact ⟨fun _ => k h hr, fun q => absurd (Nat.le_refl _) q⟩
  | succ m ih =>
    intro j h hj hr
    have hM' : endsJ M j 1000 0 = 0 := hM
    refine bX12_ends_2 ⟨q0 hr hM', ?_⟩
    rw [qI_47 hr hM', endsJ_ne (by decide), ha]
    have hM := hM'
    simp (disch := omega) only [q0 hr hM, qR_41 hr hM, qK_41 hr hM, qi_41 hr hM, qA_41 hr hM, qR_46 hr hM, qK_46 hr hM, qi_46 hr hM, qA_46 hr hM, o_c, o_add, o_addn, o_nadd, o_muln, o_le, o_lt, o_nle, o_len, o_nlt, o_ltn, o_eq, o_eqn, o_neq, o_sub1, true_and]
    rw [endsJ_hi (Nat.le_refl _), endsJ_ne (by decide)]
    refine ⟨fun q => by omega, fun _ => ⟨fun q1 => ih (j + 1) h (by omega) ?_, fun q1 => ⟨fun q2 => ih (j + 1) h (by omega) ?_, fun q2 => ⟨by decide, bX12_isAgreedAt_0 (x_agr_2 (n := n) hr hM' ?_ hn5 (a := j) (by omega) ?_ ?_ n 0 _ (Nat.zero_add _) (fun i hi => by omega))⟩⟩⟩⟩
    · rw [endsJ_skip (fun q => by rw [q1] at q; exact absurd q.1 (by decide))]; exact hr
    · rw [endsJ_skip (fun q => q2 q.2.1)]; exact hr
    · rw [endsJ_ne (by decide)]; exact hn
    · intro i hi; rw [endsJ_ne (by decide)]; exact hc i hi
    · rw [KK_ret, agrB_endsJ]
      refine bX12_ends_34 ?_
      rw [b2i_z]
      simp (disch := omega) only [q0 hr hM, qR_46 hr hM, qK_46 hr hM, qi_46 hr hM, qA_46 hr hM, qI_4 hr hM, o_c, o_add, o_addn, o_nadd, o_muln, o_le, o_lt, o_nle, o_len, o_nlt, o_ltn, o_eq, o_eqn, o_neq, o_sub1, true_and]
      rw [endsJ_ne (by decide)]
      refine ⟨fun q3 => ih (j + 1) h (by omega) ?_, fun q3 => ih (j + 1) _ (by omega) ?_⟩
      · rw [endsJ_skip (fun q => by rw [q3] at q; exact absurd q.2.2 (by decide))]; exact hr
      · rw [endsJ_do ⟨(hz j (by omega)).resolve_left q1, Classical.not_not.mp q2, by simpa using q3⟩]
        exact rm_46 j _ hr
theorem x_ends (hr : RC S F e (M, G, c) h) (hM : M 1000 0 = 0) (hn : M 0 0 = Int32.ofNat n) (hn5 : n ≤ 5) {na : Nat} (ha : M 47 0 = Int32.ofNat na) (ha14 : na ≤ 14) (hz : ∀ a, a < na → M 41 a = 0 ∨ M 41 a = 1) (hc : ∀ i, i < n → ∃ ci, M 13 i = Int32.ofNat ci ∧ ci ≤ 30) {u : Option Value} (k : ∀ h', RC S F e (endsS M, G, c) h' → Q (.inl none) h') : WP (d + 1) mX12_ends 0 [some (.ref 210), u] [] h Q := by
  have e1 : endsJ M na = endsS M := by
    unfold endsJ endsS
    rw [nt_of ha (by omega)]
  have e0 : endsJ M 0 = M := by
    funext s k
    unfold endsJ
    rw [if_neg (by omega)]
  refine bX12_ends_0 (x_ends_2 (S := S) (F := F) (e := e) (G := G) (c := c) hM hn hn5 ha ha14 hz hc ?_ na 0 h (Nat.zero_add _) ?_)
  · rw [e1]; exact k
  · rw [e0]; exact hr
end REFB
