/-! ===== the reference: what is asked ===== -/
section REFV
variable {S : SI} {F : SF} {e : EX} {M : SI} {G : SF} {c : Nat × Nat × Nat × (Nat → Int32)} {h : HP} {d : Nat} {Q : Out → HP → Prop} {n q l : Nat}
theorem x_steps (hr : RC S F e (M, G, c) h) (hM : M 1000 0 = 0) (k : ∀ h', RC S F e (u2 M 50 0 0, G, c) h' → Q (.inl (some (.int (M 4 0)))) h') : WP d mX12_steps 0 [some (.ref 210)] [] h Q := by
  have r := rm_50 0 hr
  have hM1 : u2 M 50 0 0 1000 0 = 0 := hM
  refine bX12_steps_0 ⟨q0 hr hM, ?_⟩
  have e4 : hI (sI h 1250 210 0) 1204 210 = M 4 0 := qI_4 (M := u2 M 50 0 0) r hM1
  rw [e4]
  exact k _ r
theorem x_messages (hr : RC S F e (M, G, c) h) (hM : M 1000 0 = 0) (k : ∀ h', RC S F e (u2 M 50 0 0, G, c) h' → Q (.inl (some (.int (M 39 0)))) h') : WP d mX12_messages 0 [some (.ref 210)] [] h Q := by
  have r := rm_50 0 hr
  have hM1 : u2 M 50 0 0 1000 0 = 0 := hM
  refine bX12_messages_0 ⟨q0 hr hM, ?_⟩
  have e4 : hI (sI h 1250 210 0) 1239 210 = M 39 0 := qI_39 (M := u2 M 50 0 0) r hM1
  rw [e4]
  exact k _ r
theorem x_acts_ (hr : RC S F e (M, G, c) h) (hM : M 1000 0 = 0) (k : ∀ h', RC S F e (u2 M 50 0 0, G, c) h' → Q (.inl (some (.int (M 47 0)))) h') : WP d mX12_acts_ 0 [some (.ref 210)] [] h Q := by
  have r := rm_50 0 hr
  have hM1 : u2 M 50 0 0 1000 0 = 0 := hM
  refine bX12_acts__0 ⟨q0 hr hM, ?_⟩
  have e4 : hI (sI h 1250 210 0) 1247 210 = M 47 0 := qI_47 (M := u2 M 50 0 0) r hM1
  rw [e4]
  exact k _ r
theorem i_b4 {y : Int32} : ((0 : Int32).toInt ≤ y.toInt ∧ y.toInt ≤ (4 : Int32).toInt) = (0 ≤ y.toInt ∧ y.toInt ≤ 4) := rfl
theorem i_b3 {y : Int32} : ((0 : Int32).toInt ≤ y.toInt ∧ y.toInt ≤ (3 : Int32).toInt) = (0 ≤ y.toInt ∧ y.toInt ≤ 3) := rfl
theorem i_b7 {y : Int32} : ((0 : Int32).toInt ≤ y.toInt ∧ y.toInt ≤ (7 : Int32).toInt) = (0 ≤ y.toInt ∧ y.toInt ≤ 7) := rfl
/-- a number from 0 to b -/
theorem o_to {y : Int32} {b : Nat} (h : 0 ≤ y.toInt ∧ y.toInt ≤ b) (hb : b < 100000) : ∃ j, y = Int32.ofNat j ∧ j ≤ b := by
  obtain ⟨j, h1, h2⟩ := o_in (x := y) (n := b + 1) ⟨h.1, by omega⟩ (by omega)
  exact ⟨j, h1, by omega⟩
theorem x_message (hr : RC S F e (M, G, c) h) (hM : M 1000 0 = 0) (hq : M 39 0 = Int32.ofNat q) (hq60 : q ≤ 60) {x y : Int32} {u3 : Option Value} (k3 : ¬ (0 ≤ x.toInt ∧ x.toInt < q) → ∀ h', RC S F e (u2 M 50 0 1, G, c) h' → Q (.inl (some (.int 0))) h') (k1 : (0 ≤ x.toInt ∧ x.toInt < q) → ¬ (0 ≤ y.toInt ∧ y.toInt ≤ 4) → ∀ h', RC S F e (u2 M 50 0 2, G, c) h' → Q (.inl (some (.int 0))) h') (k : ∀ p j, x = Int32.ofNat p → p < q → y = Int32.ofNat j → j ≤ 4 → ∀ h', RC S F e (u2 M 50 0 0, G, c) h' → Q (.inl (some (.int (M 37 (24 * p + if j = 4 then 8 else j))))) h') : WP (d + 2) mX12_message 0 [some (.ref 210), some (.int x), some (.int y), u3] [] h Q := by
  refine bX12_message_0 ⟨by decide, q0 hr hM, x_isMessage hr hM hq hq60 ?_⟩
  rw [KK_ret]
  refine bX12_message_5 (x_in ?_)
  rw [KK_ret, decide_eq_decide.mpr (iff_of_eq i_b4)]
  refine bX12_message_14 ⟨by decide, q0 hr hM, x_goes (g := true) hr hM ?_⟩
  intro h1 hr1
  rw [KK_ret]
  by_cases cx : 0 ≤ x.toInt ∧ x.toInt < q
  · rw [decide_eq_true cx] at hr1 ⊢
    by_cases cy : 0 ≤ y.toInt ∧ y.toInt ≤ 4
    · rw [decide_eq_true cy] at hr1 ⊢
      obtain ⟨p, hp, hpq⟩ := o_in cx (by omega)
      obtain ⟨j, hj, hj4⟩ := o_to (b := 4) cy (by omega)
      have kk := k p j hp hpq hj hj4
      subst hp hj
      have hM1 : u2 M 50 0 0 1000 0 = 0 := hM
      have hr1' : RC S F e (u2 M 50 0 0, G, c) h1 := hr1
      have e37 : u2 M 50 0 0 37 = M 37 := rfl
      refine bX12_message_18 ⟨fun _ => ?_, fun w => absurd (by decide) w⟩
      simp (disch := omega) only [q0 hr1' hM1, qR_37 hr1' hM1, qK_37 hr1' hM1, qi_37 hr1' hM1, qA_37 hr1' hM1, e37, o_c, o_add, o_addn, o_nadd, o_muln, o_le, o_lt, o_nle, o_len, o_nlt, o_ltn, o_eq, o_eqn, o_neq, o_sub1, true_and]
      refine ⟨fun a => ?_, fun a => ?_⟩
      · rw [if_neg (show ¬ j = 4 from a)] at kk
        exact kk h1 hr1'
      · rw [if_pos (show j = 4 from Classical.not_not.mp a)] at kk
        exact kk h1 hr1'
    · rw [decide_eq_false cy] at hr1 ⊢
      exact bX12_message_18 ⟨fun w => absurd rfl w, fun _ => k1 cx cy h1 hr1⟩
  · rw [decide_eq_false cx] at hr1 ⊢
    exact bX12_message_18 ⟨fun w => absurd rfl w, fun _ => k3 cx h1 hr1⟩
theorem x_of (hr : RC S F e (M, G, c) h) (hM : M 1000 0 = 0) (hn : M 0 0 = Int32.ofNat n) (hn5 : n = 3 ∨ n = 5) (hl : ∀ m, m < n → ∃ ci, M 13 m = Int32.ofNat ci ∧ ci ≤ 30) {x y : Int32} {u3 : Option Value} (k3 : ¬ (0 ≤ x.toInt ∧ x.toInt < n) → ∀ h', RC S F e (u2 M 50 0 1, G, c) h' → Q (.inl (some (.int 0))) h') (k1 : (0 ≤ x.toInt ∧ x.toInt < n) → ¬ (0 ≤ y.toInt ∧ y.toInt ≤ 7) → ∀ h', RC S F e (u2 M 50 0 2, G, c) h' → Q (.inl (some (.int 0))) h') (k : ∀ m j, x = Int32.ofNat m → m < n → y = Int32.ofNat j → j ≤ 7 → ∀ h', RC S F e (u2 M 50 0 0, G, c) h' → Q (.inl (some (.int (ofV M G m j)))) h') : WP (d + 2) mX12_of 0 [some (.ref 210), some (.int x), some (.int y), u3] [] h Q := by
  refine bX12_of_0 ⟨by decide, q0 hr hM, x_isMachine hr hM hn hn5 ?_⟩
  rw [KK_ret]
  refine bX12_of_6 (x_in ?_)
  rw [KK_ret, decide_eq_decide.mpr (iff_of_eq i_b7)]
  refine bX12_of_13 ⟨by decide, q0 hr hM, x_goes (g := true) hr hM ?_⟩
  intro h1 hr1
  rw [KK_ret]
  by_cases cx : 0 ≤ x.toInt ∧ x.toInt < n
  · rw [decide_eq_true cx] at hr1 ⊢
    by_cases cy : 0 ≤ y.toInt ∧ y.toInt ≤ 7
    · rw [decide_eq_true cy] at hr1 ⊢
      obtain ⟨m, hm, hmn⟩ := o_in cx (by omega)
      obtain ⟨j, hj, hj7⟩ := o_to (b := 7) cy (by omega)
      have kk := k m j hm hmn hj hj7
      obtain ⟨ci, hc1, hc2⟩ := hl m hmn
      subst hm hj
      have hM1 : u2 M 50 0 0 1000 0 = 0 := hM
      have hr1' : RC S F e (u2 M 50 0 0, G, c) h1 := hr1
      have kk := kk h1 hr1'
      have f11 : u2 M 50 0 0 11 = M 11 := rfl
      have f9 : u2 M 50 0 0 9 = M 9 := rfl
      have f10 : u2 M 50 0 0 10 = M 10 := rfl
      have f12 : u2 M 50 0 0 12 = M 12 := rfl
      have f13 : u2 M 50 0 0 13 = M 13 := rfl
      have f5 : u2 M 50 0 0 5 = M 5 := rfl
      have f25 : u2 M 50 0 0 25 = M 25 := rfl
      have hc1' : u2 M 50 0 0 13 m = Int32.ofNat ci := hc1
      have eci : nt (M 13 m) = ci := nt_of hc1 (by omega)
      refine bX12_of_17 ⟨fun _ => ?_, fun w => absurd (by decide) w⟩
      have hj : j = 0 ∨ j = 1 ∨ j = 2 ∨ j = 3 ∨ j = 4 ∨ j = 5 ∨ j = 6 ∨ j = 7 := by omega
      rcases hj with rfl | rfl | rfl | rfl | rfl | rfl | rfl | rfl
      · refine ⟨fun _ => ?_, fun w => absurd w (by decide), fun w => absurd w (by decide), fun w => absurd w (by decide), fun w => absurd w (by decide), fun w => absurd w (by decide), fun w => absurd w (by decide), fun w => absurd rfl w.1⟩
        simp (disch := omega) only [q0 hr1' hM1, qR_11 hr1' hM1, qK_11 hr1' hM1, qi_11 hr1' hM1, qA_11 hr1' hM1, f11, o_c, o_add, o_addn, o_nadd, o_muln, o_le, o_lt, o_nle, o_len, o_nlt, o_ltn, o_eq, o_eqn, o_neq, o_sub1, true_and]
        exact kk
      · refine ⟨fun w => absurd w (by decide), fun _ => ?_, fun w => absurd w (by decide), fun w => absurd w (by decide), fun w => absurd w (by decide), fun w => absurd w (by decide), fun w => absurd w (by decide), fun w => absurd rfl w.2.1⟩
        simp (disch := omega) only [q0 hr1' hM1, qR_9 hr1' hM1, qK_9 hr1' hM1, qi_9 hr1' hM1, qA_9 hr1' hM1, f9, o_c, o_add, o_addn, o_nadd, o_muln, o_le, o_lt, o_nle, o_len, o_nlt, o_ltn, o_eq, o_eqn, o_neq, o_sub1, true_and]
        exact kk
      · refine ⟨fun w => absurd w (by decide), fun w => absurd w (by decide), fun _ => ?_, fun w => absurd w (by decide), fun w => absurd w (by decide), fun w => absurd w (by decide), fun w => absurd w (by decide), fun w => absurd rfl w.2.2.1⟩
        simp (disch := omega) only [q0 hr1' hM1, qR_10 hr1' hM1, qK_10 hr1' hM1, qi_10 hr1' hM1, qA_10 hr1' hM1, f10, o_c, o_add, o_addn, o_nadd, o_muln, o_le, o_lt, o_nle, o_len, o_nlt, o_ltn, o_eq, o_eqn, o_neq, o_sub1, true_and]
        exact kk
      · refine ⟨fun w => absurd w (by decide), fun w => absurd w (by decide), fun w => absurd w (by decide), fun _ => ?_, fun w => absurd w (by decide), fun w => absurd w (by decide), fun w => absurd w (by decide), fun w => absurd rfl w.2.2.2.1⟩
        simp (disch := omega) only [q0 hr1' hM1, qR_12 hr1' hM1, qK_12 hr1' hM1, qi_12 hr1' hM1, qA_12 hr1' hM1, f12, o_c, o_add, o_addn, o_nadd, o_muln, o_le, o_lt, o_nle, o_len, o_nlt, o_ltn, o_eq, o_eqn, o_neq, o_sub1, true_and]
        exact kk
      · refine ⟨fun w => absurd w (by decide), fun w => absurd w (by decide), fun w => absurd w (by decide), fun w => absurd w (by decide), fun _ => ?_, fun w => absurd w (by decide), fun w => absurd w (by decide), fun w => absurd rfl w.2.2.2.2.1⟩
        simp (disch := omega) only [q0 hr1' hM1, qR_13 hr1' hM1, qK_13 hr1' hM1, qi_13 hr1' hM1, qA_13 hr1' hM1, f13, o_c, o_add, o_addn, o_nadd, o_muln, o_le, o_lt, o_nle, o_len, o_nlt, o_ltn, o_eq, o_eqn, o_neq, o_sub1, true_and]
        exact kk
      · refine ⟨fun w => absurd w (by decide), fun w => absurd w (by decide), fun w => absurd w (by decide), fun w => absurd w (by decide), fun w => absurd w (by decide), fun _ => ⟨by decide, q0 hr1' hM1, x_valueOf hr1' hM1 (by omega) hc1' hc2 ?_⟩, fun w => absurd w (by decide), fun w => absurd rfl w.2.2.2.2.2.1⟩
        rw [KK_ret]
        refine bX12_of_108 ?_
        have ev : valU (u2 M 50 0 0) m ci = valU M m ci := valU_cg (S1 := u2 M 50 0 0) (S2 := M) rfl rfl rfl ci
        rw [ev]
        have k5 : ofV M G m 5 = valU M m (nt (M 13 m)) := rfl
        rw [k5, eci] at kk
        exact kk
      · refine ⟨fun w => absurd w (by decide), fun w => absurd w (by decide), fun w => absurd w (by decide), fun w => absurd w (by decide), fun w => absurd w (by decide), fun w => absurd w (by decide), fun _ => ⟨by decide, q0 hr1' hM1, x_promises hr1' hM1 (by omega) ?_⟩, fun w => absurd rfl w.2.2.2.2.2.2⟩
        rw [KK_ret]
        have ep : promB (u2 M 50 0 0) G m = promB M G m := rfl
        rw [ep]
        have k6 : ofV M G m 6 = if promB M G m = true then M 25 m else -1 := rfl
        rw [k6] at kk
        cases hp : promB M G m
        · rw [hp] at kk
          exact bX12_of_114 ⟨fun _ => bX12_of_127 kk, fun w => absurd rfl w⟩
        · rw [hp] at kk
          refine bX12_of_114 ⟨fun w => absurd w (by decide), fun _ => ?_⟩
          simp (disch := omega) only [q0 hr1' hM1, qR_25 hr1' hM1, qK_25 hr1' hM1, qi_25 hr1' hM1, qA_25 hr1' hM1, f25, o_c, o_add, o_addn, o_nadd, o_muln, o_le, o_lt, o_nle, o_len, o_nlt, o_ltn, o_eq, o_eqn, o_neq, o_sub1, true_and]
          exact bX12_of_127 kk
      · refine ⟨fun w => absurd w (by decide), fun w => absurd w (by decide), fun w => absurd w (by decide), fun w => absurd w (by decide), fun w => absurd w (by decide), fun w => absurd w (by decide), fun w => absurd w (by decide), fun _ => ?_⟩
        have k7 : ofV M G m 7 = if M 5 m = 0 then 0 else 1 := rfl
        rw [k7] at kk
        simp (disch := omega) only [q0 hr1' hM1, qR_5 hr1' hM1, qK_5 hr1' hM1, qi_5 hr1' hM1, qA_5 hr1' hM1, f5, o_c, o_add, o_addn, o_nadd, o_muln, o_le, o_lt, o_nle, o_len, o_nlt, o_ltn, o_eq, o_eqn, o_neq, o_sub1, true_and]
        refine ⟨fun a => bX12_of_142 ?_, fun a => bX12_of_142 ?_⟩
        · rw [if_pos a] at kk; exact kk
        · rw [if_neg a] at kk; exact kk
    · rw [decide_eq_false cy] at hr1 ⊢
      exact bX12_of_17 ⟨fun w => absurd rfl w, fun _ => k1 cx cy h1 hr1⟩
  · rw [decide_eq_false cx] at hr1 ⊢
    exact bX12_of_17 ⟨fun w => absurd rfl w, fun _ => k3 cx h1 hr1⟩
theorem x_entry (hr : RC S F e (M, G, c) h) (hM : M 1000 0 = 0) (hn : M 0 0 = Int32.ofNat n) (hn5 : n = 3 ∨ n = 5) (hl : ∀ m, m < n → ∃ l, M 12 m = Int32.ofNat l ∧ l ≤ 30) {x y z : Int32} {u4 u5 : Option Value} (k3 : (∀ m, x = Int32.ofNat m → m < n → ¬ (1 ≤ y.toInt ∧ y.toInt ≤ (M 12 m).toInt)) → ∀ h', RC S F e (u2 M 50 0 1, G, c) h' → Q (.inl (some (.int 0))) h') (k1 : ∀ m, x = Int32.ofNat m → m < n → (1 ≤ y.toInt ∧ y.toInt ≤ (M 12 m).toInt) → ¬ (0 ≤ z.toInt ∧ z.toInt ≤ 3) → ∀ h', RC S F e (u2 M 50 0 2, G, c) h' → Q (.inl (some (.int 0))) h') (k : ∀ m q j, x = Int32.ofNat m → m < n → y = Int32.ofNat (q + 1) → (q : Int) < (M 12 m).toInt → z = Int32.ofNat j → j ≤ 3 → ∀ h', RC S F e (u2 M 50 0 0, G, c) h' → Q (.inl (some (.int (M (14 + j) (30 * m + q))))) h') : WP (d + 2) mX12_entry 0 [some (.ref 210), some (.int x), some (.int y), some (.int z), u4, u5] [] h Q := by
  have last : ∀ (b : Bool), (b = true → ∃ m, x = Int32.ofNat m ∧ m < n ∧ (1 ≤ y.toInt ∧ y.toInt ≤ (M 12 m).toInt)) → (b = false → (∀ m, x = Int32.ofNat m → m < n → ¬ (1 ≤ y.toInt ∧ y.toInt ≤ (M 12 m).toInt))) → WP (d + 1) mX12_in 0 [some (.int z), some (.int 0), some (.int 3)] [] h (KK (d + 1) mX12_entry mX12_in 47 [some (.ref 210), some (.int x), some (.int y), some (.int z), some (.int (b2i b)), u5] [.int (b2i b), .ref 210] Q) := by
    intro b hb1 hb0
    refine x_in ?_
    rw [KK_ret, decide_eq_decide.mpr (iff_of_eq i_b3)]
    refine bX12_entry_50 ⟨by decide, q0 hr hM, x_goes (g := true) hr hM ?_⟩
    intro h1 hr1
    rw [KK_ret]
    cases b
    · exact bX12_entry_54 ⟨fun w => absurd rfl w, fun _ => k3 (hb0 rfl) h1 hr1⟩
    · obtain ⟨m, hm, hmn, cy⟩ := hb1 rfl
      obtain ⟨l, hl1, hl2⟩ := hl m hmn
      by_cases cz : 0 ≤ z.toInt ∧ z.toInt ≤ 3
      · rw [decide_eq_true cz] at hr1 ⊢
        obtain ⟨i, hi, hi3⟩ := o_to (b := 3) cz (by omega)
        have cy2 := cy.2
        rw [hl1, o_i _ (by omega)] at cy2
        obtain ⟨y', hy, hyl⟩ := o_to (b := l) (y := y) ⟨by omega, cy2⟩ (by omega)
        have cy1 := cy.1
        rw [hy, o_i _ (by omega)] at cy1
        have kk := k m (y' - 1) i hm hmn (by rw [hy]; congr 1; omega) (by rw [hl1, o_i _ (by omega)]; omega) hi hi3
        subst hm hi hy
        have hM1 : u2 M 50 0 0 1000 0 = 0 := hM
        have hr1' : RC S F e (u2 M 50 0 0, G, c) h1 := hr1
        have kk := kk h1 hr1'
        have f14 : u2 M 50 0 0 14 = M 14 := rfl
        have f15 : u2 M 50 0 0 15 = M 15 := rfl
        have f16 : u2 M 50 0 0 16 = M 16 := rfl
        have f17 : u2 M 50 0 0 17 = M 17 := rfl
        have ea : 30 * m + y' - 1 = 30 * m + (y' - 1) := by omega
        refine bX12_entry_54 ⟨fun _ => ?_, fun w => absurd (by decide) w⟩
        have hi : i = 0 ∨ i = 1 ∨ i = 2 ∨ i = 3 := by omega
        rcases hi with rfl | rfl | rfl | rfl
        · refine ⟨fun w => absurd rfl w, fun _ => ?_⟩
          simp (disch := omega) only [q0 hr1' hM1, qR_14 hr1' hM1, qK_14 hr1' hM1, qi_14 hr1' hM1, qA_14 hr1' hM1, f14, o_c, o_add, o_addn, o_nadd, o_muln, o_le, o_lt, o_nle, o_len, o_nlt, o_ltn, o_eq, o_eqn, o_neq, o_sub1, true_and, ea]
          exact kk
        · refine ⟨fun _ => ⟨fun w => absurd rfl w, fun _ => ?_⟩, fun w => absurd (by decide) w⟩
          simp (disch := omega) only [q0 hr1' hM1, qR_15 hr1' hM1, qK_15 hr1' hM1, qi_15 hr1' hM1, qA_15 hr1' hM1, f15, o_c, o_add, o_addn, o_nadd, o_muln, o_le, o_lt, o_nle, o_len, o_nlt, o_ltn, o_eq, o_eqn, o_neq, o_sub1, true_and, ea]
          exact kk
        · refine ⟨fun _ => ⟨fun _ => ⟨fun w => absurd rfl w, fun _ => ?_⟩, fun w => absurd (by decide) w⟩, fun w => absurd (by decide) w⟩
          simp (disch := omega) only [q0 hr1' hM1, qR_16 hr1' hM1, qK_16 hr1' hM1, qi_16 hr1' hM1, qA_16 hr1' hM1, f16, o_c, o_add, o_addn, o_nadd, o_muln, o_le, o_lt, o_nle, o_len, o_nlt, o_ltn, o_eq, o_eqn, o_neq, o_sub1, true_and, ea]
          exact kk
        · refine ⟨fun _ => ⟨fun _ => ⟨fun _ => ?_, fun w => absurd (by decide) w⟩, fun w => absurd (by decide) w⟩, fun w => absurd (by decide) w⟩
          simp (disch := omega) only [q0 hr1' hM1, qR_17 hr1' hM1, qK_17 hr1' hM1, qi_17 hr1' hM1, qA_17 hr1' hM1, f17, o_c, o_add, o_addn, o_nadd, o_muln, o_le, o_lt, o_nle, o_len, o_nlt, o_ltn, o_eq, o_eqn, o_neq, o_sub1, true_and, ea]
          exact kk
      · rw [decide_eq_false cz] at hr1 ⊢
        exact bX12_entry_54 ⟨fun w => absurd rfl w, fun _ => k1 m hm hmn cy cz h1 hr1⟩
  refine bX12_entry_0 ⟨by decide, q0 hr hM, x_isMachine hr hM hn hn5 ?_⟩
  rw [KK_ret]
  refine bX12_entry_5 ⟨fun a => last false (fun w => absurd w (by decide)) (fun _ => ?_), fun a => ⟨q0 hr hM, by decide, x_isMachine hr hM hn hn5 ?_⟩⟩
  · rw [b2i_z] at a
    intro m hm hmn
    exact absurd ⟨by rw [hm, o_i _ (by omega)]; omega, by rw [hm, o_i _ (by omega)]; omega⟩ (of_decide_eq_false a)
  · have cx : 0 ≤ x.toInt ∧ x.toInt < n := by simpa [b2i_z] using a
    rw [KK_ret, decide_eq_true cx, qR_12 hr hM]
    obtain ⟨m, hm, hmn⟩ := o_in cx (by omega)
    obtain ⟨l, hl1, hl2⟩ := hl m hmn
    refine bX12_entry_19 ⟨fun w => absurd w (by decide), fun _ => ?_⟩
    have hm0 := hm
    subst hm
    simp (disch := omega) only [q0 hr hM, qR_12 hr hM, qK_12 hr hM, qi_12 hr hM, qA_12 hr hM, hl1, o_c, o_add, o_addn, o_nadd, o_muln, o_le, o_lt, o_nle, o_len, o_nlt, o_ltn, o_eq, o_eqn, o_neq, o_sub1, true_and]
    refine x_in ?_
    rw [KK_ret]
    have ey : ((1 : Int32).toInt ≤ y.toInt ∧ y.toInt ≤ (Int32.ofNat l).toInt) = (1 ≤ y.toInt ∧ y.toInt ≤ (M 12 m).toInt) := by rw [hl1, i_one]
    rw [decide_eq_decide.mpr (iff_of_eq ey)]
    refine bX12_entry_31 ⟨fun a => last false (fun w => absurd w (by decide)) (fun _ => ?_), fun a => last true (fun _ => ⟨m, rfl, hmn, ?_⟩) (fun w => absurd w (by decide))⟩
    · rw [b2i_z] at a
      intro m' hm' hmn'
      have : m = m' := by
        have := congrArg Int32.toInt hm'
        rw [o_i _ (by omega), o_i _ (by omega)] at this
        omega
      subst this
      exact of_decide_eq_false a
    · simpa [b2i_z] using a
theorem x_clock (hr : RC S F e (M, G, c) h) (hM : M 1000 0 = 0) (hn : M 0 0 = Int32.ofNat n) (hn5 : n = 3 ∨ n = 5) {x : Int32} (k3 : ¬ (0 ≤ x.toInt ∧ x.toInt < n) → ∀ h', RC S F e (u2 M 50 0 1, G, c) h' → Q (.inl (some (.float FP.fconst0))) h') (k : ∀ m, x = Int32.ofNat m → m < n → ∀ h', RC S F e (u2 M 50 0 0, G, c) h' → Q (.inl (some (.float (G 7 m)))) h') : WP (d + 2) mX12_clock 0 [some (.ref 210), some (.int x)] [] h Q := by
  refine bX12_clock_0 ⟨by decide, q0 hr hM, x_isMachine hr hM hn hn5 ?_⟩
  rw [KK_ret]
  refine bX12_clock_6 ⟨by decide, q0 hr hM, x_goes (b := true) (g := true) hr hM ?_⟩
  intro h1 hr1
  rw [KK_ret]
  by_cases cx : 0 ≤ x.toInt ∧ x.toInt < n
  · rw [decide_eq_true cx] at hr1 ⊢
    obtain ⟨m, hm, hmn⟩ := o_in cx (by omega)
    have kk := k m hm hmn
    subst hm
    have hM1 : u2 M 50 0 0 1000 0 = 0 := hM
    have hr1' : RC S F e (u2 M 50 0 0, G, c) h1 := hr1
    refine bX12_clock_11 ⟨fun w => absurd w (by decide), fun _ => ?_⟩
    simp (disch := omega) only [q0 hr1' hM1, qR_7 hr1' hM1, qK_7 hr1' hM1, qi_7 hr1' hM1, qA_7 hr1' hM1, o_c, o_add, o_addn, o_nadd, o_muln, o_le, o_lt, o_nle, o_len, o_nlt, o_ltn, o_eq, o_eqn, o_neq, o_sub1, true_and]
    exact kk h1 hr1'
  · rw [decide_eq_false cx] at hr1 ⊢
    exact bX12_clock_11 ⟨fun _ => k3 cx h1 hr1, fun w => absurd rfl w⟩
theorem x_lease (hr : RC S F e (M, G, c) h) (hM : M 1000 0 = 0) (hn : M 0 0 = Int32.ofNat n) (hn5 : n = 3 ∨ n = 5) {x : Int32} (k3 : ¬ (0 ≤ x.toInt ∧ x.toInt < n) → ∀ h', RC S F e (u2 M 50 0 1, G, c) h' → Q (.inl (some (.float FP.fconst0))) h') (k : ∀ m, x = Int32.ofNat m → m < n → ∀ h', RC S F e (u2 M 50 0 0, G, c) h' → Q (.inl (some (.float (if M 11 m = 2 ∧ ¬ M 23 m = 0 then G 24 m else 3212836864)))) h') : WP (d + 2) mX12_lease 0 [some (.ref 210), some (.int x)] [] h Q := by
  refine bX12_lease_0 ⟨by decide, q0 hr hM, x_isMachine hr hM hn hn5 ?_⟩
  rw [KK_ret]
  refine bX12_lease_6 ⟨by decide, q0 hr hM, x_goes (b := true) (g := true) hr hM ?_⟩
  intro h1 hr1
  rw [KK_ret]
  by_cases cx : 0 ≤ x.toInt ∧ x.toInt < n
  · rw [decide_eq_true cx] at hr1 ⊢
    obtain ⟨m, hm, hmn⟩ := o_in cx (by omega)
    have kk := k m hm hmn
    subst hm
    have hM1 : u2 M 50 0 0 1000 0 = 0 := hM
    have hr1' : RC S F e (u2 M 50 0 0, G, c) h1 := hr1
    have kk := kk h1 hr1'
    have f11 : u2 M 50 0 0 11 = M 11 := rfl
    have f23 : u2 M 50 0 0 23 = M 23 := rfl
    refine bX12_lease_11 ⟨fun _ => ?_, fun w => absurd (by decide) w⟩
    simp (disch := omega) only [q0 hr1' hM1, qR_11 hr1' hM1, qK_11 hr1' hM1, qi_11 hr1' hM1, qA_11 hr1' hM1, qR_23 hr1' hM1, qK_23 hr1' hM1, qi_23 hr1' hM1, qA_23 hr1' hM1, qR_24 hr1' hM1, qK_24 hr1' hM1, qi_24 hr1' hM1, qA_24 hr1' hM1, f11, f23, o_c, o_add, o_addn, o_nadd, o_muln, o_le, o_lt, o_nle, o_len, o_nlt, o_ltn, o_eq, o_eqn, o_neq, o_sub1, true_and]
    refine ⟨fun a => ?_, fun a => ⟨fun b => ?_, fun b => ?_⟩⟩
    · rw [if_neg (fun z => a z.1)] at kk; exact kk
    · rw [if_neg (fun z => z.2 b)] at kk; exact kk
    · rw [if_pos ⟨Classical.not_not.mp a, b⟩] at kk; exact kk
  · rw [decide_eq_false cx] at hr1 ⊢
    exact bX12_lease_11 ⟨fun w => absurd rfl w, fun _ => k3 cx h1 hr1⟩
/-- how many of the first j hold a lease -/
def holN (M : SI) (G : SF) : Nat → Nat
  | 0 => 0
  | j + 1 => holN M G j + (if holB M G j = true then 1 else 0)
theorem x_leases_9 (hM : M 1000 0 = 0) (hn : M 0 0 = Int32.ofNat n) (hn5 : n = 3 ∨ n = 5) (hr : RC S F e (M, G, c) h) (k : Q (.inl (some (.int (Int32.ofNat (holN M G n))))) h) :
    ∀ (t j : Nat), j + t = n → WP (d + 1) mX12_leases_ 9 [some (.ref 210), some (.int (Int32.ofNat (holN M G j))), some (.int (Int32.ofNat j))] [] h Q := by
  intro t
  induction t with
  | zero =>
    intro j hj
    obtain rfl : j = n := by omega
    refine bX12_leases__9 ⟨q0 hr hM, ?_⟩
    rw [qI_0 hr hM, hn, o_le _ _ (by omega) (by omega)]
    exact ⟨fun _ => k, fun w => absurd (Nat.le_refl _) w⟩
  | succ t ih =>
    intro j hj
    have st : holN M G (j + 1) = holN M G j + (if holB M G j = true then 1 else 0) := rfl
    have nx := ih (j + 1) (by omega)
    refine bX12_leases__9 ⟨q0 hr hM, ?_⟩
    rw [qI_0 hr hM, hn, o_le _ _ (by omega) (by omega)]
    refine ⟨fun w => by omega, fun _ => ⟨by decide, x_holdsLease hr hM (by omega) ?_⟩⟩
    rw [KK_ret]
    cases hb : holB M G j
    · rw [st, hb] at nx
      refine bX12_leases__23 ⟨fun _ => ?_, fun w => absurd rfl w⟩
      rw [o_addn, o_addn]
      exact nx
    · rw [st, hb] at nx
      refine bX12_leases__23 ⟨fun w => absurd w (by decide), fun _ => ?_⟩
      rw [o_addn, o_addn]
      exact nx
theorem x_leases_ (hr : RC S F e (M, G, c) h) (hM : M 1000 0 = 0) (hn : M 0 0 = Int32.ofNat n) (hn5 : n = 3 ∨ n = 5) {u1 u2' : Option Value} (k : ∀ h', RC S F e (u2 M 50 0 0, G, c) h' → Q (.inl (some (.int (Int32.ofNat (holN (u2 M 50 0 0) G n))))) h') : WP (d + 1) mX12_leases_ 0 [some (.ref 210), u1, u2'] [] h Q := by
  have r := rm_50 0 hr
  have hM1 : u2 M 50 0 0 1000 0 = 0 := hM
  exact bX12_leases__0 ⟨q0 hr hM, x_leases_9 (M := u2 M 50 0 0) hM1 hn hn5 r (k _ r) n 0 (Nat.zero_add _)⟩
theorem x_decision (hr : RC S F e (M, G, c) h) (hM : M 1000 0 = 0) (hn : M 0 0 = Int32.ofNat n) (hn5 : n = 3 ∨ n = 5) {x y z : Int32} {u4 u5 : Option Value} (k3 : ¬ ((0 ≤ x.toInt ∧ x.toInt < n) ∧ (0 ≤ y.toInt ∧ y.toInt < 4)) → ∀ h', RC S F e (u2 M 50 0 1, G, c) h' → Q (.inl (some (.int 0))) h') (k1 : ((0 ≤ x.toInt ∧ x.toInt < n) ∧ (0 ≤ y.toInt ∧ y.toInt < 4)) → ¬ (0 ≤ z.toInt ∧ z.toInt ≤ 3) → ∀ h', RC S F e (u2 M 50 0 2, G, c) h' → Q (.inl (some (.int 0))) h') (k : ∀ m j i, x = Int32.ofNat m → m < n → y = Int32.ofNat j → j < 4 → z = Int32.ofNat i → i ≤ 3 → ∀ h', RC S F e (u2 M 50 0 0, G, c) h' → Q (.inl (some (.int (M (27 + i) (4 * m + j))))) h') : WP (d + 2) mX12_decision 0 [some (.ref 210), some (.int x), some (.int y), some (.int z), u4, u5] [] h Q := by
  have ey : ((0 : Int32).toInt ≤ y.toInt ∧ y.toInt ≤ (3 : Int32).toInt) = (0 ≤ y.toInt ∧ y.toInt < 4) := by
    have e3 : (3 : Int32).toInt = 3 := rfl
    have e0 : (0 : Int32).toInt = 0 := rfl
    rw [e3, e0]
    exact propext ⟨fun w => by omega, fun w => by omega⟩
  have last : ∀ (b : Bool), (b = true → (0 ≤ x.toInt ∧ x.toInt < n) ∧ (0 ≤ y.toInt ∧ y.toInt < 4)) → (b = false → ¬ ((0 ≤ x.toInt ∧ x.toInt < n) ∧ (0 ≤ y.toInt ∧ y.toInt < 4))) → WP (d + 1) mX12_in 0 [some (.int z), some (.int 0), some (.int 3)] [] h (KK (d + 1) mX12_decision mX12_in 30 [some (.ref 210), some (.int x), some (.int y), some (.int z), some (.int (b2i b)), u5] [.int (b2i b), .ref 210] Q) := by
    intro b hb1 hb0
    refine x_in ?_
    rw [KK_ret, decide_eq_decide.mpr (iff_of_eq i_b3)]
    refine bX12_decision_33 ⟨by decide, q0 hr hM, x_goes (g := true) hr hM ?_⟩
    intro h1 hr1
    rw [KK_ret]
    cases b
    · exact bX12_decision_37 ⟨fun w => absurd rfl w, fun _ => k3 (hb0 rfl) h1 hr1⟩
    · obtain ⟨cx, cy⟩ := hb1 rfl
      by_cases cz : 0 ≤ z.toInt ∧ z.toInt ≤ 3
      · rw [decide_eq_true cz] at hr1 ⊢
        obtain ⟨m, hm, hmn⟩ := o_in cx (by omega)
        obtain ⟨j, hj, hj4⟩ := o_in (n := 4) cy (by omega)
        obtain ⟨i, hi, hi3⟩ := o_to (b := 3) cz (by omega)
        have kk := k m j i hm hmn hj hj4 hi hi3
        subst hm hj hi
        have hM1 : u2 M 50 0 0 1000 0 = 0 := hM
        have hr1' : RC S F e (u2 M 50 0 0, G, c) h1 := hr1
        have kk := kk h1 hr1'
        have f27 : u2 M 50 0 0 27 = M 27 := rfl
        have f28 : u2 M 50 0 0 28 = M 28 := rfl
        have f29 : u2 M 50 0 0 29 = M 29 := rfl
        have f30 : u2 M 50 0 0 30 = M 30 := rfl
        refine bX12_decision_37 ⟨fun _ => ?_, fun w => absurd (by decide) w⟩
        have hi : i = 0 ∨ i = 1 ∨ i = 2 ∨ i = 3 := by omega
        rcases hi with rfl | rfl | rfl | rfl
        · refine ⟨fun w => absurd rfl w, fun _ => ?_⟩
          simp (disch := omega) only [q0 hr1' hM1, qR_27 hr1' hM1, qK_27 hr1' hM1, qi_27 hr1' hM1, qA_27 hr1' hM1, f27, o_c, o_add, o_addn, o_nadd, o_muln, o_le, o_lt, o_nle, o_len, o_nlt, o_ltn, o_eq, o_eqn, o_neq, o_sub1, true_and]
          exact kk
        · refine ⟨fun _ => ⟨fun w => absurd rfl w, fun _ => ?_⟩, fun w => absurd (by decide) w⟩
          simp (disch := omega) only [q0 hr1' hM1, qR_28 hr1' hM1, qK_28 hr1' hM1, qi_28 hr1' hM1, qA_28 hr1' hM1, f28, o_c, o_add, o_addn, o_nadd, o_muln, o_le, o_lt, o_nle, o_len, o_nlt, o_ltn, o_eq, o_eqn, o_neq, o_sub1, true_and]
          exact kk
        · refine ⟨fun _ => ⟨fun _ => ⟨fun w => absurd rfl w, fun _ => ?_⟩, fun w => absurd (by decide) w⟩, fun w => absurd (by decide) w⟩
          simp (disch := omega) only [q0 hr1' hM1, qR_29 hr1' hM1, qK_29 hr1' hM1, qi_29 hr1' hM1, qA_29 hr1' hM1, f29, o_c, o_add, o_addn, o_nadd, o_muln, o_le, o_lt, o_nle, o_len, o_nlt, o_ltn, o_eq, o_eqn, o_neq, o_sub1, true_and]
          exact kk
        · refine ⟨fun _ => ⟨fun _ => ⟨fun _ => ?_, fun w => absurd (by decide) w⟩, fun w => absurd (by decide) w⟩, fun w => absurd (by decide) w⟩
          simp (disch := omega) only [q0 hr1' hM1, qR_30 hr1' hM1, qK_30 hr1' hM1, qi_30 hr1' hM1, qA_30 hr1' hM1, f30, o_c, o_add, o_addn, o_nadd, o_muln, o_le, o_lt, o_nle, o_len, o_nlt, o_ltn, o_eq, o_eqn, o_neq, o_sub1, true_and]
          exact kk
      · rw [decide_eq_false cz] at hr1 ⊢
        exact bX12_decision_37 ⟨fun w => absurd rfl w, fun _ => k1 ⟨cx, cy⟩ cz h1 hr1⟩
  refine bX12_decision_0 ⟨by decide, q0 hr hM, x_isMachine hr hM hn hn5 ?_⟩
  rw [KK_ret]
  refine bX12_decision_5 ⟨fun a => last false (fun w => absurd w (by decide)) (fun _ => ?_), fun a => x_in ?_⟩
  · rw [b2i_z] at a
    exact fun z => of_decide_eq_false a z.1
  · have cx : 0 ≤ x.toInt ∧ x.toInt < n := by simpa [b2i_z] using a
    rw [KK_ret, decide_eq_decide.mpr (iff_of_eq ey)]
    refine bX12_decision_14 ⟨fun a => last false (fun w => absurd w (by decide)) (fun _ => ?_), fun a => last true (fun _ => ⟨cx, ?_⟩) (fun w => absurd w (by decide))⟩
    · rw [b2i_z] at a
      exact fun z => of_decide_eq_false a z.2
    · simpa [b2i_z] using a
theorem x_act {na : Nat} (hr : RC S F e (M, G, c) h) (hM : M 1000 0 = 0) (ha : M 47 0 = Int32.ofNat na) (ha14 : na ≤ 14) {x y : Int32} (k3 : ¬ (0 ≤ x.toInt ∧ x.toInt < na) → ∀ h', RC S F e (u2 M 50 0 1, G, c) h' → Q (.inl (some (.int 0))) h') (k1 : (0 ≤ x.toInt ∧ x.toInt < na) → ¬ (0 ≤ y.toInt ∧ y.toInt ≤ 3) → ∀ h', RC S F e (u2 M 50 0 2, G, c) h' → Q (.inl (some (.int 0))) h') (k : ∀ a j, x = Int32.ofNat a → a < na → y = Int32.ofNat j → j ≤ 3 → ∀ h', RC S F e (u2 M 50 0 0, G, c) h' → Q (.inl (some (.int (actV M a j)))) h') : WP (d + 1) mX12_act 0 [some (.ref 210), some (.int x), some (.int y)] [] h Q := by
  have ex : ((0 : Int32).toInt ≤ x.toInt ∧ x.toInt ≤ (M 47 0 - 1).toInt) = (0 ≤ x.toInt ∧ x.toInt < na) := by
    have e3 : (M 47 0 - 1).toInt = (na : Int) - 1 := by
      rw [ha, i_sub (by rw [o_i _ (by omega), i_one]; omega) (by rw [o_i _ (by omega), i_one]; omega), o_i _ (by omega), i_one]
    rw [e3, i_zero]
    exact propext ⟨fun w => by omega, fun w => by omega⟩
  refine bX12_act_0 ⟨q0 hr hM, ?_⟩
  rw [qI_47 hr hM]
  refine x_in ?_
  rw [KK_ret, decide_eq_decide.mpr (iff_of_eq ex)]
  refine bX12_act_12 (x_in ?_)
  rw [KK_ret, decide_eq_decide.mpr (iff_of_eq i_b3)]
  refine bX12_act_18 ⟨by decide, q0 hr hM, x_goes (g := true) hr hM ?_⟩
  intro h1 hr1
  rw [KK_ret]
  by_cases cx : 0 ≤ x.toInt ∧ x.toInt < na
  · rw [decide_eq_true cx] at hr1 ⊢
    by_cases cy : 0 ≤ y.toInt ∧ y.toInt ≤ 3
    · rw [decide_eq_true cy] at hr1 ⊢
      obtain ⟨a, hp, hpq⟩ := o_in cx (by omega)
      obtain ⟨j, hj, hj3⟩ := o_to (b := 3) cy (by omega)
      have kk := k a j hp hpq hj hj3
      subst hp hj
      have hM1 : u2 M 50 0 0 1000 0 = 0 := hM
      have hr1' : RC S F e (u2 M 50 0 0, G, c) h1 := hr1
      have kk := kk h1 hr1'
      have f41 : u2 M 50 0 0 41 = M 41 := rfl
      have f44 : u2 M 50 0 0 44 = M 44 := rfl
      have f45 : u2 M 50 0 0 45 = M 45 := rfl
      have f46 : u2 M 50 0 0 46 = M 46 := rfl
      refine bX12_act_22 ⟨fun _ => ?_, fun w => absurd (by decide) w⟩
      have hi : j = 0 ∨ j = 1 ∨ j = 2 ∨ j = 3 := by omega
      rcases hi with rfl | rfl | rfl | rfl
      · refine ⟨fun w => absurd rfl w, fun _ => ?_⟩
        have k0 : actV M a 0 = if M 41 a = 0 then 0 else 1 := rfl
        rw [k0] at kk
        simp (disch := omega) only [q0 hr1' hM1, qR_41 hr1' hM1, qK_41 hr1' hM1, qi_41 hr1' hM1, qA_41 hr1' hM1, f41, o_c, o_add, o_addn, o_nadd, o_muln, o_le, o_lt, o_nle, o_len, o_nlt, o_ltn, o_eq, o_eqn, o_neq, o_sub1, true_and]
        refine ⟨fun b => ?_, fun b => ?_⟩
        · rw [if_pos b] at kk; exact kk
        · rw [if_neg b] at kk; exact kk
      · refine ⟨fun _ => ⟨fun w => absurd rfl w, fun _ => ?_⟩, fun w => absurd (by decide) w⟩
        simp (disch := omega) only [q0 hr1' hM1, qR_44 hr1' hM1, qK_44 hr1' hM1, qi_44 hr1' hM1, qA_44 hr1' hM1, f44, o_c, o_add, o_addn, o_nadd, o_muln, o_le, o_lt, o_nle, o_len, o_nlt, o_ltn, o_eq, o_eqn, o_neq, o_sub1, true_and]
        exact kk
      · refine ⟨fun _ => ⟨fun _ => ⟨fun w => absurd rfl w, fun _ => ?_⟩, fun w => absurd (by decide) w⟩, fun w => absurd (by decide) w⟩
        simp (disch := omega) only [q0 hr1' hM1, qR_45 hr1' hM1, qK_45 hr1' hM1, qi_45 hr1' hM1, qA_45 hr1' hM1, f45, o_c, o_add, o_addn, o_nadd, o_muln, o_le, o_lt, o_nle, o_len, o_nlt, o_ltn, o_eq, o_eqn, o_neq, o_sub1, true_and]
        exact kk
      · refine ⟨fun _ => ⟨fun _ => ⟨fun _ => ?_, fun w => absurd (by decide) w⟩, fun w => absurd (by decide) w⟩, fun w => absurd (by decide) w⟩
        simp (disch := omega) only [q0 hr1' hM1, qR_46 hr1' hM1, qK_46 hr1' hM1, qi_46 hr1' hM1, qA_46 hr1' hM1, f46, o_c, o_add, o_addn, o_nadd, o_muln, o_le, o_lt, o_nle, o_len, o_nlt, o_ltn, o_eq, o_eqn, o_neq, o_sub1, true_and]
        exact kk
    · rw [decide_eq_false cy] at hr1 ⊢
      exact bX12_act_22 ⟨fun w => absurd rfl w, fun _ => k1 cx cy h1 hr1⟩
  · rw [decide_eq_false cx] at hr1 ⊢
    exact bX12_act_22 ⟨fun w => absurd rfl w, fun _ => k3 cx h1 hr1⟩
end REFV
