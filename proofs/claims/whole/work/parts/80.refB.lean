/-! ===== the reference: appended ===== -/
section REFK
variable {S : SI} {F : SF} {e : EX} {M : SI} {G : SF} {c : Nat × Nat × Nat × (Nat → Int32)} {h : HP} {d : Nat} {Q : Out → HP → Prop} {n q l : Nat}
theorem put_eq {B : SI} {m x : Nat} {t a s v : Int32} (hx : x < 1000) : putS (cutP B m (Int32.ofNat x)) m t a s v = u2 (u2 (u2 (u2 (u2 B 14 (30 * m + x) t) 15 (30 * m + x) a) 16 (30 * m + x) s) 17 (30 * m + x) v) 12 m (Int32.ofNat (x + 1)) := by
  have e1 : cutP B m (Int32.ofNat x) 12 m = Int32.ofNat x := u2_eq
  unfold putS
  rw [e1, nt_of rfl (by omega), o_addn]
  funext f k
  by_cases c12 : f = 12 ∧ k = m
  · rw [c12.1, c12.2, u2_eq, u2_eq]
  · unfold cutP u2
    simp only [if_neg c12]
theorem tm_hi {B : SI} {m x k : Nat} (hl : B 12 m = Int32.ofNat x) (hx : x < k) (hk : k < 1000) : tmAt B m (Int32.ofNat k) = 0 := by
  unfold tmAt
  rw [hl, o_i _ (by omega), o_i _ (by omega), if_neg (by omega)]
theorem x_app_236 {B : SI} {m p j : Nat} {w : RW} {x : UInt32} (hM : B 1000 0 = 0) (hm : m < 5) (hw : ∀ i, i < 24 → B 49 i = w i) (hj : j < 3) (hpj : p + j < 30) {v5 : Int32} (hr : RC S F e (u2 B 14 (30 * m + (p + j)) (w (10 + 4 * j)), G, c) h) (k : ∀ h', RC S F e (putS (cutP B m (Int32.ofNat (p + j))) m (w (10 + 4 * j)) (w (11 + 4 * j)) (w (12 + 4 * j)) (w (13 + 4 * j)), G, c) h' → ∀ u8 u9, WP d mX12_appended 122 [some (.ref 210), some (.int (Int32.ofNat m)), some (.float x), some (.int (w 1)), some (.int (Int32.ofNat p)), some (.int v5), some (.int 1), some (.int (Int32.ofNat (j + 1))), u8, u9] [] h' Q) : WP d mX12_appended 236 [some (.ref 210), some (.int (Int32.ofNat m)), some (.float x), some (.int (w 1)), some (.int (Int32.ofNat p)), some (.int v5), some (.int 1), some (.int (Int32.ofNat j)), some (.int (Int32.ofNat (p + j + 1))), some (.int (Int32.ofNat (30 * m + (p + j))))] [.int (w (11 + 4 * j)), .int (Int32.ofNat (30 * m + (p + j))), .ref 221] h Q := by
  have hM1 : u2 B 14 (30 * m + (p + j)) (w (10 + 4 * j)) 1000 0 = 0 := hM
  have r2 := rm_15 (30 * m + (p + j)) (w (11 + 4 * j)) hr
  have hM2 : u2 (u2 B 14 (30 * m + (p + j)) (w (10 + 4 * j))) 15 (30 * m + (p + j)) (w (11 + 4 * j)) 1000 0 = 0 := hM
  have a49 := qA_49 r2 hM2
  have r3 := rm_16 (30 * m + (p + j)) (w (12 + 4 * j)) r2
  have hM3 : u2 (u2 (u2 B 14 (30 * m + (p + j)) (w (10 + 4 * j))) 15 (30 * m + (p + j)) (w (11 + 4 * j))) 16 (30 * m + (p + j)) (w (12 + 4 * j)) 1000 0 = 0 := hM
  have b49 := qA_49 r3 hM3
  have e12 : u2 (u2 B 14 (30 * m + (p + j)) (w (10 + 4 * j))) 15 (30 * m + (p + j)) (w (11 + 4 * j)) 49 (12 + 4 * j) = w (12 + 4 * j) := hw _ (by omega)
  have e13 : u2 (u2 (u2 B 14 (30 * m + (p + j)) (w (10 + 4 * j))) 15 (30 * m + (p + j)) (w (11 + 4 * j))) 16 (30 * m + (p + j)) (w (12 + 4 * j)) 49 (13 + 4 * j) = w (13 + 4 * j) := hw _ (by omega)
  have r4 := rm_17 (30 * m + (p + j)) (w (13 + 4 * j)) r3
  refine bX12_appended_236 ?_
  simp (disch := omega) only [q0 hr hM1, qR_49 hr hM1, qK_49 hr hM1, qi_49 hr hM1, qA_49 hr hM1, qR_15 hr hM1, qK_15 hr hM1, qi_15 hr hM1, qA_15 hr hM1, qR_16 hr hM1, qK_16 hr hM1, qi_16 hr hM1, qA_16 hr hM1, qR_17 hr hM1, qK_17 hr hM1, qi_17 hr hM1, qA_17 hr hM1, qR_12 hr hM1, qK_12 hr hM1, qi_12 hr hM1, qA_12 hr hM1, a49, b49, e12, e13, o_c, o_add, o_addn, o_nadd, o_muln, o_le, o_lt, o_nle, o_len, o_nlt, o_ltn, o_eq, o_eqn, o_neq, o_sub1, true_and]
  have hM4 : u2 (u2 (u2 (u2 B 14 (30 * m + (p + j)) (w (10 + 4 * j))) 15 (30 * m + (p + j)) (w (11 + 4 * j))) 16 (30 * m + (p + j)) (w (12 + 4 * j))) 17 (30 * m + (p + j)) (w (13 + 4 * j)) 1000 0 = 0 := hM
  refine bX12_appended_280 ?_
  simp (disch := omega) only [q0 r4 hM4, qR_12 r4 hM4, qK_12 r4 hM4, qi_12 r4 hM4, qA_12 r4 hM4, o_c, o_add, o_addn, o_nadd, o_muln, o_le, o_lt, o_nle, o_len, o_nlt, o_ltn, o_eq, o_eqn, o_neq, o_sub1, true_and]
  have r5 := rm_12 m (Int32.ofNat (p + j + 1)) r4
  rw [← put_eq (by omega)] at r5
  exact k _ r5 _ _
theorem x_app_122 {A : SI} {m p mn n0 : Nat} {w : RW} {x : UInt32} (hM : A 1000 0 = 0) (hm : m < 5) (hw : ∀ i, i < 24 → A 49 i = w i) (hn : A 12 m = Int32.ofNat n0) (h0 : p ≤ n0) (h30 : n0 ≤ 30) (hmn : p + mn ≤ 30) (hm3 : mn ≤ 3) (hw4 : w 4 = Int32.ofNat p) (hw8 : w 8 = Int32.ofNat mn) (ht : ∀ k, k < mn → w (10 + 4 * k) ≠ 0) (hq : A 39 0 = Int32.ofNat q) (hq60 : q ≤ 60) (hnn : nn32 (FP.fadd (G 7 m) (G 2 0)) = true)
    (k : let S2 := putsS m p w mn A
      let S3 := u2 (u2 S2 13 m (iMax (iMin (w 6) (w 4 + w 8)) (S2 13 m))) 25 m (w 1)
      ∀ h', RC S F e ((snd (S3, u2 G 26 m (FP.fadd (G 7 m) (G 2 0))) (ackW S3 m (w 1) 1 (w 4 + w 8)) x).1, (snd (S3, u2 G 26 m (FP.fadd (G 7 m) (G 2 0))) (ackW S3 m (w 1) 1 (w 4 + w 8)) x).2, c) h' → Q (.inl none) h') :
    ∀ (t j : Nat) (h : HP) (df : Bool) (u8 u9 : Option Value), j + t = mn → (df = true → putsS m p w j A 12 m = Int32.ofNat (p + j)) → RC S F e (putsS m p w j A, G, c) h → WP (d + 2) mX12_appended 122 [some (.ref 210), some (.int (Int32.ofNat m)), some (.float x), some (.int (w 1)), some (.int (Int32.ofNat p)), some (.int (Int32.ofNat mn)), some (.int (b2i df)), some (.int (Int32.ofNat j)), u8, u9] [] h Q := by
  intro t
  induction t with
  | zero =>
    intro j h df u8 u9 hj hdf hr
    obtain rfl : j = mn := by omega
    have hM' : putsS m p w j A 1000 0 = 0 := (putsS_ne (by decide) _ _).trans hM
    have e6 : putsS m p w j A 49 6 = w 6 := (putsS_ne (by decide) _ _).trans (hw 6 (by decide))
    have eF : hF h 1202 210 = G 2 0 := qI_2 hr hM'
    simp only [hw4, hw8, o_add] at k
    have fin : ∀ (v v7 : Int32), v = iMax (iMin (w 6) (Int32.ofNat (p + j))) (putsS m p w j A 13 m) → WP (d + 1) mX12_acks 0 [some (.ref 210), some (.int (Int32.ofNat m)), some (.int (w 1)), some (.int 1), some (.int (Int32.ofNat (p + j))), some (.float x), none] [] (sAF (sAI (sAI h 219 m v) 231 m (w 1)) 232 m (FP.fadd (G 7 m) (G 2 0))) (KK (d + 1) mX12_appended mX12_acks 383 [some (.ref 210), some (.int (Int32.ofNat m)), some (.float x), some (.int (w 1)), some (.int (Int32.ofNat p)), some (.int (Int32.ofNat j)), some (.int (b2i df)), some (.int v7), u8, u9] [] Q) := by
      intro v v7 hv
      subst hv
      have r3 := rm_26 m (FP.fadd (G 7 m) (G 2 0)) (rm_25 m (w 1) (rm_13 m (iMax (iMin (w 6) (Int32.ofNat (p + j))) (putsS m p w j A 13 m)) hr))
      refine x_acks r3 hM' hm ?_ hq60 (Or.inr rfl) ?_
      · exact (putsS_ne (by decide) _ _).trans hq
      · intro h' hr'
        rw [KK_ret]
        exact bX12_appended_386 (k h' hr')
    refine bX12_appended_122 ⟨fun _ => ?_, fun w => absurd (Int32.le_refl _) w⟩
    simp (disch := omega) only [q0 hr hM', qR_49 hr hM', qK_49 hr hM', qi_49 hr hM', qA_49 hr hM', qR_13 hr hM', qK_13 hr hM', qi_13 hr hM', qA_13 hr hM', qR_25 hr hM', qK_25 hr hM', qi_25 hr hM', qA_25 hr hM', qR_7 hr hM', qK_7 hr hM', qi_7 hr hM', qA_7 hr hM', qR_26 hr hM', qK_26 hr hM', qi_26 hr hM', qA_26 hr hM', ti_6 hr hM', tc_6, e6, eF, o_c, o_add, o_addn, o_nadd, o_muln, o_le, o_lt, o_nle, o_len, o_nlt, o_ltn, o_eq, o_eqn, o_neq, o_sub1, true_and]
    refine ⟨fun a => ⟨fun b => ⟨hnn, by decide, fin _ _ ?_⟩, fun b => ⟨hnn, by decide, fin _ _ ?_⟩⟩, fun a => ⟨fun b => ⟨hnn, by decide, fin _ _ ?_⟩, fun b => ⟨hnn, by decide, fin _ _ ?_⟩⟩⟩
    all_goals unfold iMax iMin
    · rw [if_neg (Int32.not_lt.mpr a), if_neg (Int32.not_lt.mpr b)]
    · rw [if_neg (Int32.not_lt.mpr a), if_pos (Int32.not_le.mp b)]
    · rw [if_pos (Int32.not_le.mp a), if_neg (Int32.not_lt.mpr b)]
    · rw [if_pos (Int32.not_le.mp a), if_pos (Int32.not_le.mp b)]
  | succ t ih =>
    intro j h df u8 u9 hj hdf hr
    have hM' : putsS m p w j A 1000 0 = 0 := (putsS_ne (by decide) _ _).trans hM
    have hwB : ∀ i, i < 24 → putsS m p w j A 49 i = w i := fun i hi => (putsS_ne (by decide) _ _).trans (hw i hi)
    obtain ⟨l, hl, l1, l2⟩ := putsS_len (S := A) hn h0 h30 hmn ht j (by omega)
    have nxt : putsS m p w (j + 1) A = if tmAt (putsS m p w j A) m (Int32.ofNat (p + j + 1)) = w (10 + 4 * j) then putsS m p w j A else putS (cutP (putsS m p w j A) m (Int32.ofNat (p + j))) m (w (10 + 4 * j)) (w (11 + 4 * j)) (w (12 + 4 * j)) (w (13 + 4 * j)) := rfl
    have tj := ht j (by omega)
    have e10 : putsS m p w j A 49 (10 + 4 * j) = w (10 + 4 * j) := hwB _ (by omega)
    generalize putsS m p w j A = B at *
    have r1 := rm_14 (30 * m + (p + j)) (w (10 + 4 * j)) hr
    have a49 := qA_49 r1 hM'
    have e11 : u2 B 14 (30 * m + (p + j)) (w (10 + 4 * j)) 49 (11 + 4 * j) = w (11 + 4 * j) := hwB _ (by omega)
    have ei : 30 * m + (p + j + 1) - 1 = 30 * m + (p + j) := by omega
    have put : ¬ tmAt B m (Int32.ofNat (p + j + 1)) = w (10 + 4 * j) → ∀ u9 : Option Value, WP (d + 2) mX12_appended 236 [some (.ref 210), some (.int (Int32.ofNat m)), some (.float x), some (.int (w 1)), some (.int (Int32.ofNat p)), some (.int (Int32.ofNat mn)), some (.int 1), some (.int (Int32.ofNat j)), some (.int (Int32.ofNat (p + j + 1))), some (.int (Int32.ofNat (30 * m + (p + j))))] [.int (w (11 + 4 * j)), .int (Int32.ofNat (30 * m + (p + j))), .ref 221] (sAI h 220 (30 * m + (p + j)) (w (10 + 4 * j))) Q := by
      intro hne u9
      rw [if_neg hne] at nxt
      refine x_app_236 hM' hm hwB (by omega) (by omega) r1 ?_
      intro h' hr' u8 u9
      refine ih (j + 1) h' true u8 u9 (by omega) (fun _ => ?_) (by rw [nxt]; exact hr')
      rw [nxt, put_eq (by omega), u2_eq]
      rfl
    have hi : ∀ y : Nat, l < p + j + 1 → ¬ tmAt B m (Int32.ofNat (p + j + 1)) = w (10 + 4 * j) := by
      intro _ hlt
      rw [tm_hi hl hlt (by omega)]
      exact fun z => tj z.symm
    refine bX12_appended_122 ?_
    cases df
    · simp (disch := omega) only [q0 hr hM', qR_49 hr hM', qK_49 hr hM', qi_49 hr hM', qA_49 hr hM', qR_12 hr hM', qK_12 hr hM', qi_12 hr hM', qA_12 hr hM', qR_14 hr hM', qK_14 hr hM', qi_14 hr hM', qA_14 hr hM', qR_15 hr hM', qK_15 hr hM', qi_15 hr hM', qA_15 hr hM', a49, e10, e11, hl, b2i, i10, Bool.false_eq_true, if_false, o_c, o_add, o_addn, o_nadd, o_muln, o_le, o_lt, o_nle, o_len, o_nlt, o_ltn, o_eq, o_eqn, o_neq, o_sub1, ei, true_and, forall_const, not_true_eq_false, false_implies, and_true, not_false_eq_true, implies_true]
      refine ⟨fun w => by omega, fun _ => ⟨fun w5 => put (hi 0 w5) u9, fun w5 => ⟨by decide, x_termAt hr hM' hm hl l2 (by omega) ?_⟩⟩⟩
      rw [KK_ret]
      refine bX12_appended_161 ?_
      simp (disch := omega) only [q0 hr hM', qR_49 hr hM', qK_49 hr hM', qi_49 hr hM', qA_49 hr hM', qR_12 hr hM', qK_12 hr hM', qi_12 hr hM', qA_12 hr hM', qR_14 hr hM', qK_14 hr hM', qi_14 hr hM', qA_14 hr hM', qR_15 hr hM', qK_15 hr hM', qi_15 hr hM', qA_15 hr hM', a49, e10, e11, hl, b2i, i10, Bool.false_eq_true, if_false, o_c, o_add, o_addn, o_nadd, o_muln, o_le, o_lt, o_nle, o_len, o_nlt, o_ltn, o_eq, o_eqn, o_neq, o_sub1, ei, true_and, forall_const, not_true_eq_false, false_implies, and_true, not_false_eq_true, implies_true]
      refine ⟨fun z => ?_, fun z => put z u9⟩
      rw [if_pos z] at nxt
      exact ih (j + 1) h false _ _ (by omega) (fun z => absurd z (by decide)) (by rw [nxt]; exact hr)
    · have hl' := hdf rfl
      simp (disch := omega) only [q0 hr hM', qR_49 hr hM', qK_49 hr hM', qi_49 hr hM', qA_49 hr hM', qR_12 hr hM', qK_12 hr hM', qi_12 hr hM', qA_12 hr hM', qR_14 hr hM', qK_14 hr hM', qi_14 hr hM', qA_14 hr hM', qR_15 hr hM', qK_15 hr hM', qi_15 hr hM', qA_15 hr hM', a49, e10, e11, hl, b2i, i10, if_true, o_c, o_add, o_addn, o_nadd, o_muln, o_le, o_lt, o_nle, o_len, o_nlt, o_ltn, o_eq, o_eqn, o_neq, o_sub1, ei, true_and, forall_const, not_true_eq_false, false_implies, and_true, not_false_eq_true, implies_true]
      refine ⟨fun w => by omega, fun _ => put ?_ u9⟩
      rw [tm_hi hl' (by omega) (by omega)]
      exact fun z => tj z.symm
theorem x_appended {m p mn : Nat} {w : RW} {x : UInt32} (hr : RC S F e (M, G, c) h) (hM : M 1000 0 = 0) (hm : m < 5) (hw : ∀ i, i < 24 → M 49 i = w i) (hn : M 12 m = Int32.ofNat n) (h30 : n ≤ 30) (hmn : p + mn ≤ 30) (hm3 : mn ≤ 3) (hw4 : w 4 = Int32.ofNat p) (hw8 : w 8 = Int32.ofNat mn) (hw5 : p = 0 ↔ w 5 = 0) (ht : ∀ k, k < mn → w (10 + 4 * k) ≠ 0) (hq : M 39 0 = Int32.ofNat q) (hq60 : q ≤ 60) (hnn : nn32 (FP.fadd (G 7 m) (G 2 0)) = true) {u3 u4 u5 u6 u7 u8 u9 : Option Value} (k : ∀ h', RC S F e ((appendedP (M, G) m w x).1, (appendedP (M, G) m w x).2, c) h' → Q (.inl none) h') : WP (d + 2) mX12_appended 0 [some (.ref 210), some (.int (Int32.ofNat m)), some (.float x), u3, u4, u5, u6, u7, u8, u9] [] h Q := by
  have w1 := hw 1 (by decide)
  have w3 := hw 3 (by decide)
  unfold appendedP at k
  refine bX12_appended_0 ?_
  simp (disch := omega) only [q0 hr hM, qR_49 hr hM, qK_49 hr hM, qi_49 hr hM, qA_49 hr hM, qR_9 hr hM, qK_9 hr hM, qi_9 hr hM, qA_9 hr hM, ti_1 hr hM, tc_1, ti_3 hr hM, tc_3, w1, w3, o_c, o_add, o_addn, o_nadd, o_muln, o_le, o_lt, o_nle, o_len, o_nlt, o_ltn, o_eq, o_eqn, o_neq, o_sub1, true_and]
  refine ⟨fun a => ⟨by decide, ?_⟩, fun a => ⟨by decide, ?_⟩⟩
  · rw [if_neg (show ¬ w 3 < M 9 m from Int32.not_lt.mpr a)] at k
    refine x_follows hr hM hm ?_
    intro h1 hr1
    rw [KK_ret]
    have hM1 : followS M m 1000 0 = 0 := hM
    have f12 : followS M m 12 m = Int32.ofNat n := hn
    have f4 : followS M m 49 4 = Int32.ofNat p := (hw 4 (by decide)).trans hw4
    have f5 : followS M m 49 5 = w 5 := hw 5 (by decide)
    have f8 : followS M m 49 8 = Int32.ofNat mn := (hw 8 (by decide)).trans hw8
    have hq1 : followS M m 39 0 = Int32.ofNat q := hq
    have bad : ¬ tmAt (followS M m) m (w 4) = w 5 → ∀ v : Int32, v = iMin (w 4 - 1) (followS M m 12 m) → WP (d + 1) mX12_acks 0 [some (.ref 210), some (.int (Int32.ofNat m)), some (.int (w 1)), some (.int 0), some (.int v), some (.float x), none] [] h1 (KK (d + 1) mX12_appended mX12_acks 103 [some (.ref 210), some (.int (Int32.ofNat m)), some (.float x), some (.int (w 1)), some (.int (Int32.ofNat p)), u5, u6, u7, u8, u9] [] Q) := by
      intro ht' v hv
      subst hv
      have hw0 : ¬ w 4 = 0 := by
        intro z
        have hp0 : p = 0 := by
          rw [hw4] at z
          have := congrArg Int32.toInt z
          rw [o_i _ (by omega)] at this
          exact Int.ofNat_eq_zero.mp this
        refine ht' ?_
        rw [hw5.mp hp0, z]
        unfold tmAt
        rw [if_neg (by rw [i_zero]; omega)]
      simp only [if_pos (And.intro hw0 ht')] at k
      refine x_acks hr1 hM1 hm hq1 hq60 (Or.inl rfl) ?_
      intro h' hr'
      rw [KK_ret]
      exact bX12_appended_106 (k h' hr')
    refine bX12_appended_37 ?_
    simp (disch := omega) only [q0 hr1 hM1, qR_49 hr1 hM1, qK_49 hr1 hM1, qi_49 hr1 hM1, qA_49 hr1 hM1, qR_12 hr1 hM1, qK_12 hr1 hM1, qi_12 hr1 hM1, qA_12 hr1 hM1, ti_4 hr1 hM1, tc_4, f4, f12, o_c, o_add, o_addn, o_nadd, o_muln, o_le, o_lt, o_nle, o_len, o_nlt, o_ltn, o_eq, o_eqn, o_neq, o_sub1, true_and]
    rw [hw4, f12] at bad
    refine ⟨fun b => ?_, fun b => ⟨by decide, x_termAt hr1 hM1 hm f12 h30 (by omega) ?_⟩⟩
    · have t0 : ¬ tmAt (followS M m) m (Int32.ofNat p) = w 5 := by
        rw [tm_hi f12 b (by omega)]
        intro z
        have := hw5.mpr z.symm
        omega
      unfold iMin at bad
      refine ⟨fun cc => ⟨by decide, bad t0 _ ?_⟩, fun cc => ⟨by decide, bad t0 _ ?_⟩⟩
      · rw [o_sub1 _ (by omega), if_neg (by rw [o_lt _ _ (by omega) (by omega)]; omega)]
      · rw [o_sub1 _ (by omega), o_le _ _ (by omega) (by omega)] at cc
        omega
    · rw [KK_ret]
      refine bX12_appended_63 ?_
      simp (disch := omega) only [q0 hr1 hM1, qR_49 hr1 hM1, qK_49 hr1 hM1, qi_49 hr1 hM1, qA_49 hr1 hM1, qR_12 hr1 hM1, qK_12 hr1 hM1, qi_12 hr1 hM1, qA_12 hr1 hM1, ti_5 hr1 hM1, tc_5, ti_8 hr1 hM1, tc_8, f5, f8, f12, o_c, o_add, o_addn, o_nadd, o_muln, o_le, o_lt, o_nle, o_len, o_nlt, o_ltn, o_eq, o_eqn, o_neq, o_sub1, true_and]
      refine ⟨fun t0 => ?_, fun t0 => ⟨fun cc => ⟨by decide, bad t0 _ ?_⟩, fun cc => ⟨by decide, bad t0 _ ?_⟩⟩⟩
      · have t0' : ¬ (¬ w 4 = 0 ∧ ¬ tmAt (followS M m) m (w 4) = w 5) := by
          rw [hw4]
          exact fun z => z.2 t0
        simp only [if_neg t0'] at k
        have en4 : nt (w 4) = p := nt_of hw4 (by omega)
        have en8 : nt (w 8) = mn := nt_of hw8 (by omega)
        rw [en4, en8] at k
        exact x_app_122 (S := S) (F := F) (e := e) (G := G) (c := c) (A := followS M m) hM1 hm hw f12 (by omega) h30 hmn hm3 hw4 hw8 ht hq1 hq60 hnn k mn 0 h1 false _ _ (Nat.zero_add _) (fun z => absurd z (by decide)) hr1
      · unfold iMin
        rw [if_neg (Int32.not_lt.mpr cc)]
      · unfold iMin
        rw [if_pos (Int32.not_le.mp cc)]
  · rw [if_pos (show w 3 < M 9 m from Int32.not_le.mp a)] at k
    refine x_acks hr hM hm hq hq60 (Or.inl rfl) ?_
    intro h' hr'
    rw [KK_ret]
    exact bX12_appended_31 (k h' hr')
end REFK
