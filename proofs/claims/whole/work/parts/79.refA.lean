/-! ===== the reference: asked, voted ===== -/
section REFJ
variable {S : SI} {F : SF} {e : EX} {M : SI} {G : SF} {c : Nat × Nat × Nat × (Nat → Int32)} {h : HP} {d : Nat} {Q : Out → HP → Prop} {n q l : Nat}
theorem ti_0 (hr : RC S F e (M, G, c) h) (hM : M 1000 0 = 0) : inA h 252 (0 : Int32) = true := qi_49 (i := 0) hr hM (by decide)
theorem tc_0 : Int32.toNatClampNeg 0 = 0 := rfl
theorem ti_1 (hr : RC S F e (M, G, c) h) (hM : M 1000 0 = 0) : inA h 252 (1 : Int32) = true := qi_49 (i := 1) hr hM (by decide)
theorem tc_1 : Int32.toNatClampNeg 1 = 1 := rfl
theorem ti_2 (hr : RC S F e (M, G, c) h) (hM : M 1000 0 = 0) : inA h 252 (2 : Int32) = true := qi_49 (i := 2) hr hM (by decide)
theorem tc_2 : Int32.toNatClampNeg 2 = 2 := rfl
theorem ti_3 (hr : RC S F e (M, G, c) h) (hM : M 1000 0 = 0) : inA h 252 (3 : Int32) = true := qi_49 (i := 3) hr hM (by decide)
theorem tc_3 : Int32.toNatClampNeg 3 = 3 := rfl
theorem ti_4 (hr : RC S F e (M, G, c) h) (hM : M 1000 0 = 0) : inA h 252 (4 : Int32) = true := qi_49 (i := 4) hr hM (by decide)
theorem tc_4 : Int32.toNatClampNeg 4 = 4 := rfl
theorem ti_5 (hr : RC S F e (M, G, c) h) (hM : M 1000 0 = 0) : inA h 252 (5 : Int32) = true := qi_49 (i := 5) hr hM (by decide)
theorem tc_5 : Int32.toNatClampNeg 5 = 5 := rfl
theorem ti_6 (hr : RC S F e (M, G, c) h) (hM : M 1000 0 = 0) : inA h 252 (6 : Int32) = true := qi_49 (i := 6) hr hM (by decide)
theorem tc_6 : Int32.toNatClampNeg 6 = 6 := rfl
theorem ti_7 (hr : RC S F e (M, G, c) h) (hM : M 1000 0 = 0) : inA h 252 (7 : Int32) = true := qi_49 (i := 7) hr hM (by decide)
theorem tc_7 : Int32.toNatClampNeg 7 = 7 := rfl
theorem ti_8 (hr : RC S F e (M, G, c) h) (hM : M 1000 0 = 0) : inA h 252 (8 : Int32) = true := qi_49 (i := 8) hr hM (by decide)
theorem tc_8 : Int32.toNatClampNeg 8 = 8 := rfl
theorem ti_9 (hr : RC S F e (M, G, c) h) (hM : M 1000 0 = 0) : inA h 252 (9 : Int32) = true := qi_49 (i := 9) hr hM (by decide)
theorem tc_9 : Int32.toNatClampNeg 9 = 9 := rfl
theorem i10 : ((1 : Int32) = 0) = False := eq_false (by decide)
theorem x_asked_fin {m : Nat} {w : RW} (hr : RC S F e (M, G, c) h) (hM : M 1000 0 = 0) (hm : m < 5) (hq : M 39 0 = Int32.ofNat q) (hq60 : q ≤ 60) (k : ∀ h', RC S F e ((askedP (M, G) m w).1, (askedP (M, G) m w).2, c) h' → Q (.inl none) h') (g : Bool) (hg : g = givesB M G m w) (v3 v4 v5 : Int32) (u7 : Option Value) : WP d mX12_sends 0 [some (.ref 210), some (.int 1), some (.int (Int32.ofNat m)), some (.int (w 1)), some (.int (M 9 m)), none, none] [] (sAI h 216 m (if g = true then w 1 else M 10 m)) (KK d mX12_asked mX12_sends 169 [some (.ref 210), some (.int (Int32.ofNat m)), some (.int (w 1)), some (.int v3), some (.int v4), some (.int v5), some (.int (b2i g)), u7] [] Q) := by
  have r1 := rm_10 m (if g = true then w 1 else M 10 m) hr
  have e1 : u2 M 10 m (if g = true then w 1 else M 10 m) = (if g = true then u2 M 10 m (w 1) else M) := by
    cases g
    · exact u2_self rfl
    · rfl
  rw [e1] at r1
  have hM1 : (if g = true then u2 M 10 m (w 1) else M) 1000 0 = 0 := by cases g <;> exact hM
  have hq1 : (if g = true then u2 M 10 m (w 1) else M) 39 0 = Int32.ofNat q := by cases g <;> exact hq
  refine x_sends r1 hM1 hq1 hq60 ?_
  intro h2 hr2
  rw [KK_ret]
  have ea : askedP (M, G) m w = snd (if g = true then u2 M 10 m (w 1) else M, G) (wu (w4 1 (Int32.ofNat m) (w 1) (M 9 m)) 7 (b2i g)) FP.fconst0 := by
    unfold askedP
    rw [← hg]
  rw [ea] at k
  by_cases c6 : q < 60
  · rw [at_ne c6]
    have hM2 : (snd (if g = true then u2 M 10 m (w 1) else M, G) (w4 1 (Int32.ofNat m) (w 1) (M 9 m)) FP.fconst0).1 1000 0 = 0 := (snd_ne (by decide) (by decide) (by decide) _).trans hM1
    have r3 := rm_37 (24 * q + 7) (b2i g) hr2
    rw [snd_wu hq1 c6 (by decide)] at r3
    refine bX12_asked_172 ⟨fun w2 => absurd w2 (by rw [o_ne1 _ (by omega)]; exact id), fun _ => ?_⟩
    simp (disch := omega) only [q0 hr2 hM2, qR_37 hr2 hM2, qK_37 hr2 hM2, qi_37 hr2 hM2, qA_37 hr2 hM2, o_c, o_add, o_addn, o_nadd, o_muln, o_le, o_lt, o_nle, o_len, o_nlt, o_ltn, o_eq, o_eqn, o_neq, o_sub1, true_and]
    cases g
    · exact ⟨fun _ => k _ r3, fun w => absurd rfl w⟩
    · exact ⟨fun w => absurd w (by decide), fun _ => k _ r3⟩
  · obtain rfl : q = 60 := by omega
    rw [at_full]
    refine bX12_asked_172 ⟨fun _ => k _ ?_, fun w2 => absurd rfl w2⟩
    rw [snd_full (w' := w4 1 (Int32.ofNat m) (w 1) (M 9 m)) (x' := FP.fconst0) hq1]
    exact hr2
theorem x_asked_59 {m : Nat} {w : RW} (hr : RC S F e (M, G, c) h) (hM : M 1000 0 = 0) (hm : m < 5) (hw : ∀ j, j < 24 → M 49 j = w j) (hq : M 39 0 = Int32.ofNat q) (hq60 : q ≤ 60) (k : ∀ h', RC S F e ((askedP (M, G) m w).1, (askedP (M, G) m w).2, c) h' → Q (.inl none) h') (b : Bool) (hb : b = (decide (tmAt M m (M 12 m) < w 5) || decide (w 5 = tmAt M m (M 12 m)) && decide (M 12 m ≤ w 4))) (v3 : Int32) (u4 u5 u6 u7 : Option Value) : WP (d + 1) mX12_asked 59 [some (.ref 210), some (.int (Int32.ofNat m)), some (.int (w 1)), some (.int v3), u4, u5, u6, u7] [.int (b2i b)] h Q := by
  have fin := fun g hg v3 v4 v5 u7 => x_asked_fin (d := d) (u7 := u7) hr hM hm hq hq60 k g hg v3 v4 v5
  have a9 : ∀ v, hAI (sAI h 216 m v) 215 = u2 M 10 m v 9 := fun v => qA_9 (rm_10 m v hr) hM
  have f9 : ∀ v, u2 M 10 m v 9 m = M 9 m := fun v => rfl
  have w3 := hw 3 (by decide)
  have w1 := hw 1 (by decide)
  have f0 := fin false
  have f1 := fin true
  simp only [Bool.false_eq_true, if_false, if_true, b2i] at f0 f1
  have gE : givesB M G m w = (decide (w 3 = M 9 m) && (decide (M 10 m = -1) || decide (M 10 m = w 1)) && b && !(promB M G m && decide (M 25 m ≠ w 1))) := by
    unfold givesB
    rw [hb]
  rw [gE] at f0 f1
  have M81 : (M 10 m = -1 ∨ M 10 m = w 1) → WP (d + 1) mX12_asked 81 [some (.ref 210), some (.int (Int32.ofNat m)), some (.int (w 1)), some (.int v3), some (.int (b2i b)), u5, u6, u7] [] h Q := by
    intro ha
    have ha' : (decide (M 10 m = -1) || decide (M 10 m = w 1)) = true := by simpa using ha
    refine bX12_asked_81 ?_
    cases b
    · simp (disch := omega) only [q0 hr hM, qR_49 hr hM, qK_49 hr hM, qi_49 hr hM, qA_49 hr hM, qR_9 hr hM, qK_9 hr hM, qi_9 hr hM, qA_9 hr hM, qR_10 hr hM, qK_10 hr hM, qi_10 hr hM, qA_10 hr hM, ti_3 hr hM, tc_3, w3, a9, f9, b2i, i10, o_c, o_add, o_addn, o_nadd, o_muln, o_le, o_lt, o_nle, o_len, o_nlt, o_ltn, o_eq, o_eqn, o_neq, o_sub1, true_and, forall_const, not_true_eq_false, false_implies, and_true, not_false_eq_true, implies_true, Bool.false_eq_true, if_false]
      exact ⟨fun _ => ⟨by decide, f0 (by simp) _ _ _ _⟩, fun _ => ⟨by decide, f0 (by simp) _ _ _ _⟩⟩
    · simp (disch := omega) only [q0 hr hM, qR_49 hr hM, qK_49 hr hM, qi_49 hr hM, qA_49 hr hM, qR_9 hr hM, qK_9 hr hM, qi_9 hr hM, qA_9 hr hM, qR_10 hr hM, qK_10 hr hM, qi_10 hr hM, qA_10 hr hM, ti_3 hr hM, tc_3, w3, a9, f9, b2i, i10, o_c, o_add, o_addn, o_nadd, o_muln, o_le, o_lt, o_nle, o_len, o_nlt, o_ltn, o_eq, o_eqn, o_neq, o_sub1, true_and, forall_const, not_true_eq_false, false_implies, and_true, not_false_eq_true, implies_true, if_true]
      refine ⟨fun w6 => ⟨by decide, f0 (by simp [w6]) _ _ _ _⟩, fun w6 => ⟨by decide, x_promises hr hM hm ?_⟩⟩
      have w6' : w 3 = M 9 m := Classical.not_not.mp w6
      rw [KK_ret]
      refine bX12_asked_118 ?_
      cases hp : promB M G m
      · simp (disch := omega) only [q0 hr hM, qR_9 hr hM, qK_9 hr hM, qi_9 hr hM, qA_9 hr hM, qR_10 hr hM, qK_10 hr hM, qi_10 hr hM, qA_10 hr hM, qR_25 hr hM, qK_25 hr hM, qi_25 hr hM, qA_25 hr hM, a9, f9, b2i, i10, o_c, o_add, o_addn, o_nadd, o_muln, o_le, o_lt, o_nle, o_len, o_nlt, o_ltn, o_eq, o_eqn, o_neq, o_sub1, true_and, forall_const, not_true_eq_false, false_implies, and_true, not_false_eq_true, implies_true, if_true]
        refine ⟨fun _ => ⟨by decide, f1 (by simp [w6', hp, ha']) _ _ _ _⟩, fun w => absurd rfl w⟩
      · simp (disch := omega) only [q0 hr hM, qR_9 hr hM, qK_9 hr hM, qi_9 hr hM, qA_9 hr hM, qR_10 hr hM, qK_10 hr hM, qi_10 hr hM, qA_10 hr hM, qR_25 hr hM, qK_25 hr hM, qi_25 hr hM, qA_25 hr hM, a9, f9, b2i, i10, o_c, o_add, o_addn, o_nadd, o_muln, o_le, o_lt, o_nle, o_len, o_nlt, o_ltn, o_eq, o_eqn, o_neq, o_sub1, true_and, forall_const, not_true_eq_false, false_implies, and_true, not_false_eq_true, implies_true, if_true]
        exact ⟨fun w7 => ⟨by decide, f0 (by simp [hp, w7]) _ _ _ _⟩, fun w7 => ⟨by decide, f1 (by simp [w6', hp, ha', Classical.not_not.mp w7]) _ _ _ _⟩⟩
  refine bX12_asked_59 ?_
  simp (disch := omega) only [q0 hr hM, qR_49 hr hM, qK_49 hr hM, qi_49 hr hM, qA_49 hr hM, qR_9 hr hM, qK_9 hr hM, qi_9 hr hM, qA_9 hr hM, qR_10 hr hM, qK_10 hr hM, qi_10 hr hM, qA_10 hr hM, ti_3 hr hM, tc_3, w3, a9, f9, b2i, i10, o_c, o_add, o_addn, o_nadd, o_muln, o_le, o_lt, o_nle, o_len, o_nlt, o_ltn, o_eq, o_eqn, o_neq, o_sub1, true_and, forall_const, not_true_eq_false, false_implies, and_true, not_false_eq_true, implies_true]
  refine ⟨fun w4 => M81 (Or.inl w4), fun w4 => ⟨fun w5 => ⟨fun w6 => ⟨by decide, f0 (by simp [w6]) _ _ _ _⟩, fun w6 => ⟨by decide, f0 (by simp [w4, w5]) _ _ _ _⟩⟩, fun w5 => M81 (Or.inr (Classical.not_not.mp w5))⟩⟩
theorem x_asked {m : Nat} {w : RW} (hr : RC S F e (M, G, c) h) (hM : M 1000 0 = 0) (hm : m < 5) (hl : M 12 m = Int32.ofNat l) (h30 : l ≤ 30) (hw : ∀ j, j < 24 → M 49 j = w j) (hq : M 39 0 = Int32.ofNat q) (hq60 : q ≤ 60) {u2' u3 u4 u5 u6 u7 : Option Value} (k : ∀ h', RC S F e ((askedP (M, G) m w).1, (askedP (M, G) m w).2, c) h' → Q (.inl none) h') : WP (d + 1) mX12_asked 0 [some (.ref 210), some (.int (Int32.ofNat m)), u2', u3, u4, u5, u6, u7] [] h Q := by
  have w1 := hw 1 (by decide)
  have w4 := hw 4 (by decide)
  have w5 := hw 5 (by decide)
  have go := fun (b : Bool) hb v3 => x_asked_59 (d := d) (u4 := u4) (u5 := u5) (u6 := u6) (u7 := u7) hr hM hm hw hq hq60 k b hb v3
  have g0 := go false
  have g1 := go true
  simp only [b2i, Bool.false_eq_true, if_false, if_true] at g0 g1
  refine bX12_asked_0 ?_
  simp (disch := omega) only [q0 hr hM, qR_49 hr hM, qK_49 hr hM, qi_49 hr hM, qA_49 hr hM, qR_12 hr hM, qK_12 hr hM, qi_12 hr hM, qA_12 hr hM, ti_1 hr hM, tc_1, w1, hl, o_c, o_add, o_addn, o_nadd, o_muln, o_le, o_lt, o_nle, o_len, o_nlt, o_ltn, o_eq, o_eqn, o_neq, o_sub1, true_and]
  refine ⟨by decide, x_termAt hr hM hm hl h30 (Nat.le_refl _) ?_⟩
  rw [KK_ret]
  have eo : tmAt M m (Int32.ofNat l) = tmAt M m (M 12 m) := by rw [hl]
  rw [eo]
  refine bX12_asked_18 ?_
  simp (disch := omega) only [q0 hr hM, qR_49 hr hM, qK_49 hr hM, qi_49 hr hM, qA_49 hr hM, qR_12 hr hM, qK_12 hr hM, qi_12 hr hM, qA_12 hr hM, ti_5 hr hM, tc_5, ti_4 hr hM, tc_4, w4, w5, o_c, o_add, o_addn, o_nadd, o_muln, o_le, o_lt, o_nle, o_len, o_nlt, o_ltn, o_eq, o_eqn, o_neq, o_sub1, true_and]
  refine ⟨fun x => bX12_asked_54 (g1 (by simp [x]) _), fun x => ⟨fun y => bX12_asked_58 (g0 (by simp [x, y]) _), fun y => ⟨fun z => bX12_asked_58 (g0 ?_ _), fun z => bX12_asked_54 (g1 ?_ _)⟩⟩⟩
  · have z' : ¬ M 12 m ≤ w 4 := Int32.not_le.mpr z
    simp [x, z']
  · have z' : M 12 m ≤ w 4 := Int32.not_lt.mp z
    simp [Classical.not_not.mp y, z']
/-- a new leader's numbers put back, the first j of them -/
def svJ (M : SI) (m j : Nat) : SI := fun s k => if s = 19 ∧ (5 * m ≤ k ∧ k < 5 * m + j) then M 12 m else if s = 20 ∧ (5 * m ≤ k ∧ k < 5 * m + j) then 0 else if s = 21 ∧ (5 * m ≤ k ∧ k < 5 * m + j) then 0 else M s k
theorem svJ_succ {m j : Nat} : u2 (u2 (u2 (svJ M m j) 19 (5 * m + j) (M 12 m)) 20 (5 * m + j) 0) 21 (5 * m + j) 0 = svJ M m (j + 1) := by
  funext s k
  unfold u2
  unfold svJ
  by_cases c21 : s = 21 ∧ k = 5 * m + j
  · rw [if_pos c21, if_neg (by omega), if_neg (by omega), if_pos (by omega)]
  · rw [if_neg c21]
    by_cases c20 : s = 20 ∧ k = 5 * m + j
    · rw [if_pos c20, if_neg (by omega), if_pos (by omega)]
    · rw [if_neg c20]
      by_cases c19 : s = 19 ∧ k = 5 * m + j
      · rw [if_pos c19, if_pos (by omega)]
      · rw [if_neg c19]
        show (if s = 19 ∧ (5 * m ≤ k ∧ k < 5 * m + j) then M 12 m else if s = 20 ∧ (5 * m ≤ k ∧ k < 5 * m + j) then 0 else if s = 21 ∧ (5 * m ≤ k ∧ k < 5 * m + j) then 0 else M s k) = _
        by_cases d19 : s = 19 ∧ (5 * m ≤ k ∧ k < 5 * m + j)
        · rw [if_pos d19, if_pos (by omega)]
        · rw [if_neg d19, if_neg (show ¬ (s = 19 ∧ (5 * m ≤ k ∧ k < 5 * m + (j + 1))) by omega)]
          by_cases d20 : s = 20 ∧ (5 * m ≤ k ∧ k < 5 * m + j)
          · rw [if_pos d20, if_pos (by omega)]
          · rw [if_neg d20, if_neg (show ¬ (s = 20 ∧ (5 * m ≤ k ∧ k < 5 * m + (j + 1))) by omega)]
            by_cases d21 : s = 21 ∧ (5 * m ≤ k ∧ k < 5 * m + j)
            · rw [if_pos d21, if_pos (by omega)]
            · rw [if_neg d21, if_neg (by omega)]
theorem x_voted_85 {m : Nat} (hM : M 1000 0 = 0) (hm : m < 5) (k : ∀ h', RC S F e (svJ M m 5, G, c) h' → Q (.inl none) h') :
    ∀ (t j : Nat) (h : HP), j + t = 5 → RC S F e (svJ M m j, G, c) h → WP d mX12_voted 85 [some (.ref 210), some (.int (Int32.ofNat m)), some (.int (Int32.ofNat j))] [] h Q := by
  intro t
  induction t with
  | zero =>
    intro j h hj hr
    obtain rfl : j = 5 := by omega
    exact bX12_voted_85 ⟨fun _ => k h hr, fun w => absurd (by decide) w⟩
  | succ t ih =>
    intro j h hj hr
    have hM' : svJ M m j 1000 0 = 0 := hM
    have e12 : svJ M m j 12 m = M 12 m := rfl
    refine bX12_voted_85 ?_
    simp (disch := omega) only [q0 hr hM', qR_12 hr hM', qK_12 hr hM', qi_12 hr hM', qA_12 hr hM', qR_19 hr hM', qK_19 hr hM', qi_19 hr hM', qA_19 hr hM', qR_20 hr hM', qK_20 hr hM', qi_20 hr hM', qA_20 hr hM', qR_21 hr hM', qK_21 hr hM', qi_21 hr hM', qA_21 hr hM', e12, o_c, o_add, o_addn, o_nadd, o_muln, o_le, o_lt, o_nle, o_len, o_nlt, o_ltn, o_eq, o_eqn, o_neq, o_sub1, true_and]
    refine ⟨fun w => by omega, fun _ => ih (j + 1) _ (by omega) ?_⟩
    rw [← svJ_succ]
    exact rm_21 (5 * m + j) 0 (rm_20 (5 * m + j) 0 (rm_19 (5 * m + j) (M 12 m) hr))
theorem x_voted {m : Nat} {w : RW} (hr : RC S F e (M, G, c) h) (hM : M 1000 0 = 0) (hm : m < 5) (hw : ∀ j, j < 24 → M 49 j = w j) {u2' : Option Value} (k : ∀ h', RC S F e (votedS M m w, G, c) h' → Q (.inl none) h') : WP (d + 1) mX12_voted 0 [some (.ref 210), some (.int (Int32.ofNat m)), u2'] [] h Q := by
  have w1 := hw 1 (by decide)
  have w3 := hw 3 (by decide)
  have w7 := hw 7 (by decide)
  refine bX12_voted_0 ?_
  have r1 := rm_18 m (M 18 m ||| (1 : Int32) <<< (w 1 &&& 31)) hr
  have a18 := qA_18 r1 hM
  simp (disch := omega) only [q0 hr hM, qR_49 hr hM, qK_49 hr hM, qi_49 hr hM, qA_49 hr hM, qR_9 hr hM, qK_9 hr hM, qi_9 hr hM, qA_9 hr hM, qR_11 hr hM, qK_11 hr hM, qi_11 hr hM, qA_11 hr hM, qR_18 hr hM, qK_18 hr hM, qi_18 hr hM, qA_18 hr hM, ti_1 hr hM, tc_1, ti_3 hr hM, tc_3, ti_7 hr hM, tc_7, w1, w3, w7, a18, u2_eq, o_c, o_add, o_addn, o_nadd, o_muln, o_le, o_lt, o_nle, o_len, o_nlt, o_ltn, o_eq, o_eqn, o_neq, o_sub1, true_and]
  unfold votedS at k
  refine ⟨fun x => ?_, fun x => ⟨fun y => ?_, fun y => ⟨fun z => ?_, fun z => ?_⟩⟩⟩
  · rw [if_pos (Or.inl x)] at k
    exact k h hr
  · rw [if_pos (Or.inr (Or.inl y))] at k
    exact k h hr
  · have z' : ¬ w 7 = 0 := z
    rw [if_neg (fun o => o.elim x (fun o => o.elim y z'))] at k
    refine x_bits ?_
    rw [KK_ret]
    refine bX12_voted_62 ⟨by decide, q0 r1 hM, x_most r1 hM ?_⟩
    rw [KK_ret]
    have em : mostI (u2 M 18 m (M 18 m ||| (1 : Int32) <<< (w 1 &&& 31))) = mostI M := rfl
    rw [em]
    refine bX12_voted_66 ⟨fun v => ?_, fun v => ?_⟩
    · have v' : ¬ mostI M ≤ popN (M 18 m ||| bitI (w 1)) := Int32.not_le.mpr v
      simp only [if_neg v'] at k
      exact k _ r1
    · have v' : mostI M ≤ popN (M 18 m ||| bitI (w 1)) := Int32.not_lt.mp v
      simp only [if_pos v'] at k
      simp (disch := omega) only [q0 r1 hM, qR_11 r1 hM, qK_11 r1 hM, qi_11 r1 hM, qA_11 r1 hM, qR_23 r1 hM, qK_23 r1 hM, qi_23 r1 hM, qA_23 r1 hM, o_c, o_add, o_addn, o_nadd, o_muln, o_le, o_lt, o_nle, o_len, o_nlt, o_ltn, o_eq, o_eqn, o_neq, o_sub1, true_and]
      refine x_voted_85 (S := S) (F := F) (e := e) (G := G) (c := c) (M := u2 (u2 (u2 M 18 m (M 18 m ||| bitI (w 1))) 11 m 2) 23 m 0) hM hm ?_ 5 0 _ rfl ?_
      · intro h' hr'
        refine k h' ?_
        have es : startS (u2 M 18 m (M 18 m ||| bitI (w 1))) m = svJ (u2 (u2 (u2 M 18 m (M 18 m ||| bitI (w 1))) 11 m 2) 23 m 0) m 5 := by
          funext s i
          unfold startS svJ
          by_cases c11 : s = 11 ∧ i = m
          · rw [if_pos c11, if_neg (by omega), if_neg (by omega), if_neg (by omega), u2_ne (by omega), c11.1, c11.2, u2_eq]
          · rw [if_neg c11]
            by_cases c23 : s = 23 ∧ i = m
            · rw [if_pos c23, if_neg (by omega), if_neg (by omega), if_neg (by omega), c23.1, c23.2, u2_eq]
            · have e1 : u2 (u2 (u2 M 18 m (M 18 m ||| bitI (w 1))) 11 m 2) 23 m 0 s i = u2 M 18 m (M 18 m ||| bitI (w 1)) s i := (u2_ne (by omega)).trans (u2_ne (by omega))
              rw [if_neg c23, e1]
              rfl
        rw [es]
        exact hr'
      · have e0 : svJ (u2 (u2 (u2 M 18 m (M 18 m ||| bitI (w 1))) 11 m 2) 23 m 0) m 0 = u2 (u2 (u2 M 18 m (M 18 m ||| bitI (w 1))) 11 m 2) 23 m 0 := by
          funext s i
          unfold svJ
          rw [if_neg (by omega), if_neg (by omega), if_neg (by omega)]
        rw [e0]
        exact rm_23 m 0 (rm_11 m 2 r1)
  · have z' : w 7 = 0 := Classical.not_not.mp z
    rw [if_pos (Or.inr (Or.inr z'))] at k
    exact k h hr
end REFJ
