/-! ===== the reference: rankedSame, leases ===== -/
section REFL
variable {S : SI} {F : SF} {e : EX} {M : SI} {G : SF} {c : Nat × Nat × Nat × (Nat → Int32)} {h : HP} {d : Nat} {Q : Out → HP → Prop} {n q l : Nat}
theorem o_m1 (x : Nat) : Int32.ofNat (x + 1) + (-1) = Int32.ofNat x := by
  rw [← Int32.sub_eq_add_neg]
  exact o_sub1 (x + 1) (by omega)
theorem knowN_le {m : Nat} {x : Int32} {j : Nat} : knowN M m x j ≤ j := by
  induction j with
  | zero => exact Nat.le_refl _
  | succ j ih =>
    unfold knowN
    by_cases c : ¬ j = m ∧ x ≤ M 20 (5 * m + j)
    · rw [if_pos c]; omega
    · rw [if_neg c]; omega
theorem x_rank_25 {m k x : Nat} (hr : RC S F e (M, G, c) h) (hM : M 1000 0 = 0) (hm : m < 5) (hn : M 0 0 = Int32.ofNat n) (hn5 : n ≤ 5) (hx : x < 1000) (hk : k < 10) (w : ∀ v5 v6 : Int32, WP d mX12_rankedSame 10 [some (.ref 210), some (.int (Int32.ofNat m)), some (.int (Int32.ofNat k)), some (.int (if k ≤ knowN M m (Int32.ofNat (x + 1)) n then Int32.ofNat (x + 1) else 0)), some (.int (Int32.ofNat x)), some (.int v5), some (.int v6)] [] h Q) :
    ∀ (t j : Nat), j + t = n → WP d mX12_rankedSame 25 [some (.ref 210), some (.int (Int32.ofNat m)), some (.int (Int32.ofNat k)), some (.int 0), some (.int (Int32.ofNat (x + 1))), some (.int (Int32.ofNat (knowN M m (Int32.ofNat (x + 1)) j))), some (.int (Int32.ofNat j))] [] h Q := by
  intro t
  induction t with
  | zero =>
    intro j hj
    obtain rfl : j = n := by omega
    have hk2 : knowN M m (Int32.ofNat (x + 1)) j ≤ j := knowN_le
    refine bX12_rankedSame_25 ⟨q0 hr hM, ?_⟩
    rw [qI_0 hr hM, hn, o_le _ _ (by omega) (by omega), o_lt _ _ (by omega) (by omega), o_m1]
    refine ⟨fun _ => ⟨fun a => ?_, fun a => ?_⟩, fun a => absurd (Nat.le_refl _) a⟩
    · have := w (Int32.ofNat (knowN M m (Int32.ofNat (x + 1)) j)) (Int32.ofNat j)
      rw [if_neg (by omega)] at this
      exact this
    · have := w (Int32.ofNat (knowN M m (Int32.ofNat (x + 1)) j)) (Int32.ofNat j)
      rw [if_pos (by omega)] at this
      exact this
  | succ t ih =>
    intro j hj
    have step : knowN M m (Int32.ofNat (x + 1)) (j + 1) = knowN M m (Int32.ofNat (x + 1)) j + (if ¬ j = m ∧ Int32.ofNat (x + 1) ≤ M 20 (5 * m + j) then 1 else 0) := rfl
    refine bX12_rankedSame_25 ⟨q0 hr hM, ?_⟩
    rw [qI_0 hr hM, hn, o_le _ _ (by omega) (by omega)]
    simp (disch := omega) only [q0 hr hM, qR_20 hr hM, qK_20 hr hM, qi_20 hr hM, qA_20 hr hM, o_c, o_add, o_addn, o_nadd, o_muln, o_le, o_lt, o_nle, o_len, o_nlt, o_ltn, o_eq, o_eqn, o_neq, o_sub1, true_and]
    refine ⟨fun a => by omega, fun _ => ⟨fun a => ?_, fun a => ⟨fun b => ?_, fun b => ?_⟩⟩⟩
    · have := ih (j + 1) (by omega)
      rw [step, if_neg (fun z => z.1 a)] at this
      exact this
    · have := ih (j + 1) (by omega)
      rw [step, if_neg (fun z => Int32.not_le.mpr b z.2)] at this
      exact this
    · have := ih (j + 1) (by omega)
      rw [step, if_pos ⟨a, Int32.not_lt.mp b⟩] at this
      exact this
theorem x_rank_10 {m k : Nat} (hr : RC S F e (M, G, c) h) (hM : M 1000 0 = 0) (hm : m < 5) (hn : M 0 0 = Int32.ofNat n) (hn5 : n ≤ 5) (hk : k < 10) {l : Nat} (w : ∀ x, x ≤ l → rankN M m n k l = x → Q (.inl (some (.int (Int32.ofNat x)))) h) :
    ∀ (x : Nat) (u5 u6 : Option Value), x ≤ l → x < 1000 → rankN M m n k x = rankN M m n k l → WP d mX12_rankedSame 10 [some (.ref 210), some (.int (Int32.ofNat m)), some (.int (Int32.ofNat k)), some (.int 0), some (.int (Int32.ofNat x)), u5, u6] [] h Q := by
  intro x
  induction x with
  | zero =>
    intro u5 u6 hx _ he
    refine bX12_rankedSame_10 ⟨fun _ => w 0 (by omega) he.symm, fun a => absurd (by decide) a⟩
  | succ x ih =>
    intro u5 u6 hx h1 he
    refine bX12_rankedSame_10 ?_
    have e0 : (0 : Int32) = Int32.ofNat 0 := rfl
    refine ⟨fun a => ?_, fun _ => ⟨fun a => absurd rfl a, fun _ => x_rank_25 (x := x) hr hM hm hn hn5 (by omega) hk ?_ n 0 (Nat.zero_add _)⟩⟩
    · rw [e0, o_le _ _ (by omega) (by omega)] at a
      omega
    · intro v5 v6
      have st : rankN M m n k (x + 1) = if k ≤ knowN M m (Int32.ofNat (x + 1)) n then x + 1 else rankN M m n k x := rfl
      by_cases c : k ≤ knowN M m (Int32.ofNat (x + 1)) n
      · rw [if_pos c] at st ⊢
        have fin : Q (.inl (some (.int (Int32.ofNat (x + 1))))) h := w (x + 1) hx (he.symm.trans st)
        refine bX12_rankedSame_10 ⟨fun _ => fin, fun _ => ⟨fun _ => fin, fun a => absurd ?_ a⟩⟩
        rw [e0, o_eq _ _ (by omega) (by omega)]
        omega
      · rw [if_neg c] at st ⊢
        exact ih (some (.int v5)) (some (.int v6)) (by omega) (by omega) (st.symm.trans he)
theorem x_rankedSame {m k : Nat} (hr : RC S F e (M, G, c) h) (hM : M 1000 0 = 0) (hm : m < 5) (hn : M 0 0 = Int32.ofNat n) (hn5 : n ≤ 5) (hk : k < 10) (hl : M 12 m = Int32.ofNat l) (h30 : l ≤ 30) {u1 u2' u3 u4 : Option Value} (w : ∀ x, x ≤ l → rankN M m n k l = x → Q (.inl (some (.int (Int32.ofNat x)))) h) : WP d mX12_rankedSame 0 [some (.ref 210), some (.int (Int32.ofNat m)), some (.int (Int32.ofNat k)), u1, u2', u3, u4] [] h Q := by
  refine bX12_rankedSame_0 ?_
  simp (disch := omega) only [q0 hr hM, qR_12 hr hM, qK_12 hr hM, qi_12 hr hM, qA_12 hr hM, hl, o_c, o_add, o_addn, o_nadd, o_muln, o_le, o_lt, o_nle, o_len, o_nlt, o_ltn, o_eq, o_eqn, o_neq, o_sub1, true_and]
  exact x_rank_10 hr hM hm hn hn5 hk w l _ _ (Nat.le_refl _) (by omega) rfl
theorem most_1 (hn : M 0 0 = Int32.ofNat n) (hn5 : n = 3 ∨ n = 5) : mostI M - 1 = Int32.ofNat (n / 2) := by
  unfold mostI
  rw [hn]
  rcases hn5 with rfl | rfl <;> decide
theorem sinceN_le {m o j : Nat} : sinceN M G m o j ≤ j := by
  induction j with
  | zero => exact Nat.le_refl _
  | succ j ih =>
    unfold sinceN
    by_cases c : ¬ j = m ∧ M 21 (5 * m + j) = 1 ∧ M 21 (5 * m + o) = 1 ∧ 0 ≤ Op.cmpValue (FP.fcmp (G 22 (5 * m + j)) (G 22 (5 * m + o))) .l
    · rw [if_pos c]; omega
    · rw [if_neg c]; omega
theorem x_leases_156 {m o : Nat} (hr : RC S F e (M, G, c) h) (hM : M 1000 0 = 0) (hm : m < 5) (ho : o < 5) {any : Bool} {best : UInt32} {v5 v6 : Int32} (k : WP d mX12_leases 7 [some (.ref 210), some (.int (Int32.ofNat m)), some (.int 1), some (.float (G 22 (5 * m + o))), some (.int (Int32.ofNat (o + 1))), some (.int v5), some (.int 1)] [] h Q) (h6 : v6 = 1) : WP d mX12_leases 156 [some (.ref 210), some (.int (Int32.ofNat m)), some (.int (b2i any)), some (.float best), some (.int (Int32.ofNat o)), some (.int v5), some (.int v6)] [] h Q := by
  subst h6
  refine bX12_leases_156 ?_
  simp (disch := omega) only [q0 hr hM, qR_22 hr hM, qK_22 hr hM, qi_22 hr hM, qA_22 hr hM, o_c, o_add, o_addn, o_nadd, o_muln, o_le, o_lt, o_nle, o_len, o_nlt, o_ltn, o_eq, o_eqn, o_neq, o_sub1, true_and]
  cases any
  · exact ⟨fun a => absurd rfl a, fun _ => ⟨fun a => absurd a (by decide), fun _ => k⟩⟩
  · exact ⟨fun _ => k, fun a => absurd (by decide) a⟩
theorem x_leases_129 {m o : Nat} (hr : RC S F e (M, G, c) h) (hM : M 1000 0 = 0) (hm : m < 5) (ho : o < 5) {any eno : Bool} {best : UInt32} {v5 v6 : Int32} (k : ∀ v6 : Int32, WP d mX12_leases 7 [some (.ref 210), some (.int (Int32.ofNat m)), some (.int (b2i (any || eno))), some (.float (if eno = true ∧ (any = false ∨ 0 < Op.cmpValue (FP.fcmp (G 22 (5 * m + o)) best) .l) then G 22 (5 * m + o) else best)), some (.int (Int32.ofNat (o + 1))), some (.int v5), some (.int v6)] [] h Q) : WP d mX12_leases 129 [some (.ref 210), some (.int (Int32.ofNat m)), some (.int (b2i any)), some (.float best), some (.int (Int32.ofNat o)), some (.int v5), some (.int v6)] [.int (b2i eno)] h Q := by
  refine bX12_leases_129 ?_
  cases eno
  · simp (disch := omega) only [q0 hr hM, qR_22 hr hM, qK_22 hr hM, qi_22 hr hM, qA_22 hr hM, b2i, i10, Bool.false_eq_true, if_false, o_c, o_add, o_addn, o_nadd, o_muln, o_le, o_lt, o_nle, o_len, o_nlt, o_ltn, o_eq, o_eqn, o_neq, o_sub1, true_and, false_and, Bool.or_false, forall_const, not_true_eq_false, false_implies, and_true, not_false_eq_true, implies_true] at k ⊢
    cases any
    · exact ⟨fun a => absurd rfl a, fun _ => k 0⟩
    · exact ⟨fun _ => k 0, fun a => absurd (by decide) a⟩
  · simp (disch := omega) only [q0 hr hM, qR_22 hr hM, qK_22 hr hM, qi_22 hr hM, qA_22 hr hM, b2i, i10, if_true, o_c, o_add, o_addn, o_nadd, o_muln, o_le, o_lt, o_nle, o_len, o_nlt, o_ltn, o_eq, o_eqn, o_neq, o_sub1, true_and, Bool.or_true, forall_const, not_true_eq_false, false_implies, and_true, not_false_eq_true, implies_true] at k ⊢
    cases any
    · simp only [true_or, if_true] at k
      refine ⟨fun _ => x_leases_156 (any := false) hr hM hm ho (k 1) rfl, fun a => absurd rfl a⟩
    · refine ⟨fun a => absurd a (by decide), fun _ => ⟨fun a => ?_, fun a => ?_⟩⟩
      · have kk := k 1
        rw [if_neg (fun z => z.elim (fun z => absurd z (by decide)) (fun z => Int32.not_lt.mpr a z))] at kk
        simpa using kk
      · have kk := k 1
        rw [if_pos (Or.inr (Int32.not_le.mp a))] at kk
        exact x_leases_156 (any := true) hr hM hm ho kk rfl
theorem x_leases_22 {m o : Nat} (hr : RC S F e (M, G, c) h) (hM : M 1000 0 = 0) (hm : m < 5) (hn : M 0 0 = Int32.ofNat n) (hn5 : n = 3 ∨ n = 5) (ho : o < n) (hz : ∀ j, j < n → M 21 (5 * m + j) = 0 ∨ M 21 (5 * m + j) = 1) {any : Bool} {best : UInt32} (k : ∀ v5 v6 : Int32, WP (d + 1) mX12_leases 7 [some (.ref 210), some (.int (Int32.ofNat m)), some (.int (b2i (any || enoB M G m n o))), some (.float (if enoB M G m n o = true ∧ (any = false ∨ 0 < Op.cmpValue (FP.fcmp (G 22 (5 * m + o)) best) .l) then G 22 (5 * m + o) else best)), some (.int (Int32.ofNat (o + 1))), some (.int v5), some (.int v6)] [] h Q) :
    ∀ (t j : Nat), j + t = n → WP (d + 1) mX12_leases 22 [some (.ref 210), some (.int (Int32.ofNat m)), some (.int (b2i any)), some (.float best), some (.int (Int32.ofNat o)), some (.int (Int32.ofNat (sinceN M G m o j))), some (.int (Int32.ofNat j))] [] h Q := by
  intro t
  induction t with
  | zero =>
    intro j hj
    obtain rfl : j = n := by omega
    have hs2 : sinceN M G m o j ≤ j := sinceN_le
    refine bX12_leases_22 ⟨q0 hr hM, ?_⟩
    rw [qI_0 hr hM, hn, o_le _ _ (by omega) (by omega), o_eq _ _ (by omega) (by omega)]
    refine ⟨fun _ => ⟨fun a => bX12_leases_128 (x_leases_129 (eno := false) hr hM hm (by omega) ?_), fun a => ⟨by decide, x_most hr hM ?_⟩⟩, fun a => absurd (Nat.le_refl _) a⟩
    · intro v6
      have kk := k (Int32.ofNat (sinceN M G m o j)) v6
      have ee : enoB M G m j o = false := decide_eq_false (fun z => z.1 a)
      rw [ee] at kk
      exact kk
    · rw [KK_ret]
      refine bX12_leases_119 ?_
      rw [most_1 hn hn5, o_lt _ _ (by omega) (by omega)]
      refine ⟨fun b => bX12_leases_128 (x_leases_129 (eno := false) hr hM hm (by omega) ?_), fun b => x_leases_129 (eno := true) hr hM hm (by omega) ?_⟩
      · intro v6
        have kk := k (Int32.ofNat (sinceN M G m o j)) v6
        have ee : enoB M G m j o = false := decide_eq_false (fun z => by omega)
        rw [ee] at kk
        exact kk
      · intro v6
        have kk := k (Int32.ofNat (sinceN M G m o j)) v6
        have ee : enoB M G m j o = true := decide_eq_true ⟨a, by omega⟩
        rw [ee] at kk
        exact kk
  | succ t ih =>
    intro j hj
    have step : sinceN M G m o (j + 1) = sinceN M G m o j + (if ¬ j = m ∧ M 21 (5 * m + j) = 1 ∧ M 21 (5 * m + o) = 1 ∧ 0 ≤ Op.cmpValue (FP.fcmp (G 22 (5 * m + j)) (G 22 (5 * m + o))) .l then 1 else 0) := rfl
    have nx := ih (j + 1) (by omega)
    have one : ∀ x y : Int32, (¬ x = 0) → (x = 0 ∨ x = 1) → x = 1 := fun x _ a b => b.resolve_left a
    have z97 : sinceN M G m o (j + 1) = sinceN M G m o j → WP (d + 1) mX12_leases 97 [some (.ref 210), some (.int (Int32.ofNat m)), some (.int (b2i any)), some (.float best), some (.int (Int32.ofNat o)), some (.int (Int32.ofNat (sinceN M G m o j))), some (.int (Int32.ofNat j))] [.int (Int32.ofNat (sinceN M G m o j))] h Q := by
      intro es
      rw [es] at nx
      refine bX12_leases_97 (bX12_leases_98 ?_)
      rw [o_addn, o_addn]
      exact nx
    refine bX12_leases_22 ⟨q0 hr hM, ?_⟩
    rw [qI_0 hr hM, hn, o_le _ _ (by omega) (by omega)]
    simp (disch := omega) only [q0 hr hM, qR_21 hr hM, qK_21 hr hM, qi_21 hr hM, qA_21 hr hM, qR_22 hr hM, qK_22 hr hM, qi_22 hr hM, qA_22 hr hM, o_c, o_add, o_addn, o_nadd, o_muln, o_le, o_lt, o_nle, o_len, o_nlt, o_ltn, o_eq, o_eqn, o_neq, o_sub1, true_and]
    refine ⟨fun a => by omega, fun _ => ⟨fun a => z97 (by rw [step, if_neg (fun z => z.1 a), Nat.add_zero]), fun a => ⟨fun b => z97 (by rw [step, if_neg (fun z => by rw [b] at z; exact absurd z.2.1 (by decide)), Nat.add_zero]), fun b => ⟨fun f => z97 (by rw [step, if_neg (fun z => by rw [f] at z; exact absurd z.2.2.1 (by decide)), Nat.add_zero]), fun f => ⟨fun g => z97 (by rw [step, if_neg (fun z => Int32.not_le.mpr g z.2.2.2), Nat.add_zero]), fun g => bX12_leases_98 ?_⟩⟩⟩⟩⟩
    rw [step, if_pos ⟨a, (hz j (by omega)).resolve_left b, (hz o ho).resolve_left f, Int32.not_lt.mp g⟩] at nx
    rw [o_addn, o_addn]
    exact nx
theorem x_leases_7 {m : Nat} (hr : RC S F e (M, G, c) h) (hM : M 1000 0 = 0) (hm : m < 5) (hn : M 0 0 = Int32.ofNat n) (hn5 : n = 3 ∨ n = 5) (hz : ∀ j, j < n → M 21 (5 * m + j) = 0 ∨ M 21 (5 * m + j) = 1) (hL : (bestF M G m n n).1 = true → nn32 (FP.fsub FP.fconst1 (G 3 0)) = true ∧ nn32 (FP.fmul (G 2 0) (FP.fsub FP.fconst1 (G 3 0))) = true ∧ nn32 (FP.fadd (bestF M G m n n).2 (FP.fmul (G 2 0) (FP.fsub FP.fconst1 (G 3 0)))) = true) (k : ∀ h', RC S F e ((leaseP (M, G) m).1, (leaseP (M, G) m).2, c) h' → Q (.inl none) h') :
    ∀ (t o : Nat) (u5 u6 : Option Value), o + t = n → WP (d + 1) mX12_leases 7 [some (.ref 210), some (.int (Int32.ofNat m)), some (.int (b2i (bestF M G m n o).1)), some (.float (bestF M G m n o).2), some (.int (Int32.ofNat o)), u5, u6] [] h Q := by
  have en : nt (M 0 0) = n := nt_of hn (by omega)
  intro t
  induction t with
  | zero =>
    intro o u5 u6 ho
    obtain rfl : o = n := by omega
    refine bX12_leases_7 ⟨q0 hr hM, ?_⟩
    rw [qI_0 hr hM, hn, o_le _ _ (by omega) (by omega), b2i_z, qI_2 hr hM, qI_3 hr hM]
    unfold leaseP at k
    simp only [en] at k
    refine ⟨fun _ => ⟨fun a => ?_, fun a => ?_⟩, fun a => absurd (Nat.le_refl _) a⟩
    · rw [if_neg (by rw [a]; decide)] at k
      exact k h hr
    · have a' : (bestF M G m o o).1 = true := by simpa using a
      rw [if_pos a'] at k
      obtain ⟨n1, n2, n3⟩ := hL a'
      simp (disch := omega) only [q0 hr hM, qR_23 hr hM, qK_23 hr hM, qi_23 hr hM, qA_23 hr hM, qR_24 hr hM, qK_24 hr hM, qi_24 hr hM, qA_24 hr hM, o_c, o_add, o_addn, o_nadd, o_muln, o_le, o_lt, o_nle, o_len, o_nlt, o_ltn, o_eq, o_eqn, o_neq, o_sub1, true_and]
      exact ⟨n1, n2, n3, k _ (rm_24 m _ (rm_23 m 1 hr))⟩
  | succ t ih =>
    intro o u5 u6 ho
    refine bX12_leases_7 ⟨q0 hr hM, ?_⟩
    rw [qI_0 hr hM, hn, o_le _ _ (by omega) (by omega)]
    refine ⟨fun a => by omega, fun _ => x_leases_22 hr hM hm hn hn5 (by omega) hz ?_ n 0 (Nat.zero_add _)⟩
    intro v5 v6
    exact ih (o + 1) (some (.int v5)) (some (.int v6)) (by omega)
theorem x_leases {m : Nat} (hr : RC S F e (M, G, c) h) (hM : M 1000 0 = 0) (hm : m < 5) (hn : M 0 0 = Int32.ofNat n) (hn5 : n = 3 ∨ n = 5) (hz : ∀ j, j < n → M 21 (5 * m + j) = 0 ∨ M 21 (5 * m + j) = 1) (hL : (bestF M G m n n).1 = true → nn32 (FP.fsub FP.fconst1 (G 3 0)) = true ∧ nn32 (FP.fmul (G 2 0) (FP.fsub FP.fconst1 (G 3 0))) = true ∧ nn32 (FP.fadd (bestF M G m n n).2 (FP.fmul (G 2 0) (FP.fsub FP.fconst1 (G 3 0)))) = true) {u1 u2' u3 u4 u5 : Option Value} (k : ∀ h', RC S F e ((leaseP (M, G) m).1, (leaseP (M, G) m).2, c) h' → Q (.inl none) h') : WP (d + 1) mX12_leases 0 [some (.ref 210), some (.int (Int32.ofNat m)), u1, u2', u3, u4, u5] [] h Q :=
  bX12_leases_0 (x_leases_7 hr hM hm hn hn5 hz hL k n 0 _ _ (Nat.zero_add _))
end REFL
