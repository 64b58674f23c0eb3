/-! ===== the reference's methods in terms of the content: small ones ===== -/
section REFA
variable {S : SI} {F : SF} {e : EX} {M : SI} {G : SF} {c : Nat × Nat × Nat × (Nat → Int32)} {h : HP} {d : Nat} {Q : Out → HP → Prop} {n : Nat}
theorem x_in {x lo hi : Int32} (k : Q (.inl (some (.int (b2i (decide (lo.toInt ≤ x.toInt ∧ x.toInt ≤ hi.toInt)))))) h) : WP d mX12_in 0 [some (.int x), some (.int lo), some (.int hi)] [] h Q := by
  refine bX12_in_0 ?_
  rw [Int32.lt_iff_toInt_lt, Int32.lt_iff_toInt_lt]
  refine ⟨fun c => ?_, fun c => ⟨fun c2 => ?_, fun c2 => ?_⟩⟩
  · rw [decide_eq_false (by omega)] at k; exact k
  · rw [decide_eq_false (by omega)] at k; exact k
  · rw [decide_eq_true (by omega)] at k; exact k
/-- what is thrown, by number: 0 for nothing -/
def gcode (a b c : Bool) : Int32 := if a = true then (if b = true then (if c = true then 0 else 3) else 2) else 1
theorem gcode_0 {a b c : Bool} : (gcode a b c = 0) = (a = true ∧ b = true ∧ c = true) := by
  cases a <;> cases b <;> cases c <;> simp [gcode]
theorem x_goes (hr : RC S F e (M, G, c) h) (hM : M 1000 0 = 0) {a b g : Bool} (k : ∀ h', RC S F e (u2 M 50 0 (gcode a b g), G, c) h' → Q (.inl (some (.int (b2i (a && b && g))))) h') : WP d mX12_goes 0 [some (.ref 210), some (.int (b2i a)), some (.int (b2i b)), some (.int (b2i g))] [] h Q := by
  have K := q0 hr hM
  have e1 : ∀ v, hI (sI h 1250 210 v) 1250 210 = v := fun v => by rw [hI_sI, if_pos ⟨rfl, rfl⟩]
  refine bX12_goes_0 ?_
  simp only [e1]
  cases a <;> cases b <;> cases g <;> simp only [b2i, gcode] at k ⊢
  all_goals simp
  all_goals exact ⟨K, k _ (rm_50 _ hr)⟩
theorem x_isMachine (hr : RC S F e (M, G, c) h) (hM : M 1000 0 = 0) (hn : M 0 0 = Int32.ofNat n) (hn5 : n = 3 ∨ n = 5) {x : Int32} (k : Q (.inl (some (.int (b2i (decide (0 ≤ x.toInt ∧ x.toInt < n)))))) h) : WP (d + 1) mX12_isMachine 0 [some (.ref 210), some (.int x)] [] h Q := by
  refine bX12_isMachine_0 ⟨q0 hr hM, ?_⟩
  rw [qI_0 hr hM, hn, o_sub1 _ (by omega)]
  refine x_in ?_
  rw [KK_ret]
  refine bX12_isMachine_11 ⟨isZ_b2i, ?_⟩
  rw [o_i _ (by omega), i_zero]
  have e : (0 ≤ x.toInt ∧ x.toInt ≤ ((n - 1 : Nat) : Int)) = (0 ≤ x.toInt ∧ x.toInt < n) := propext ⟨fun w => by omega, fun w => by omega⟩
  rw [decide_eq_decide.mpr (iff_of_eq e)]
  exact k
theorem x_isMessage (hr : RC S F e (M, G, c) h) (hM : M 1000 0 = 0) {q : Nat} (hq : M 39 0 = Int32.ofNat q) (hq60 : q ≤ 60) {x : Int32} (k : Q (.inl (some (.int (b2i (decide (0 ≤ x.toInt ∧ x.toInt < q)))))) h) : WP (d + 1) mX12_isMessage 0 [some (.ref 210), some (.int x)] [] h Q := by
  refine bX12_isMessage_0 ⟨q0 hr hM, ?_⟩
  rw [qI_39 hr hM, hq]
  refine x_in ?_
  rw [KK_ret]
  refine bX12_isMessage_11 ⟨isZ_b2i, ?_⟩
  have e0 : (Int32.ofNat q - 1).toInt = (q : Int) - 1 := by
    rw [i_sub (by rw [o_i _ (by omega), i_one]; omega) (by rw [o_i _ (by omega), i_one]; omega), o_i _ (by omega), i_one]
  rw [e0, i_zero]
  have e : (0 ≤ x.toInt ∧ x.toInt ≤ (q : Int) - 1) = (0 ≤ x.toInt ∧ x.toInt < q) := propext ⟨fun w => by omega, fun w => by omega⟩
  rw [decide_eq_decide.mpr (iff_of_eq e)]
  exact k
theorem x_most (hr : RC S F e (M, G, c) h) (hM : M 1000 0 = 0) (k : Q (.inl (some (.int (mostI M)))) h) : WP d mX12_most 0 [some (.ref 210)] [] h Q := by
  refine bX12_most_0 ⟨q0 hr hM, ?_⟩
  rw [qI_0 hr hM]
  exact k
theorem x_bits {x : Int32} {u v : Option Value} (k : Q (.inl (some (.int (popN x)))) h) : WP d mX12_bits 0 [some (.int x), u, v] [] h Q := by
  refine bX12_bits_0 (bX12_bits_4 ⟨fun c => absurd c (by decide), fun _ => bX12_bits_4 ⟨fun c => absurd c (by decide), fun _ => bX12_bits_4 ⟨fun c => absurd c (by decide), fun _ => bX12_bits_4 ⟨fun c => absurd c (by decide), fun _ => bX12_bits_4 ⟨fun c => absurd c (by decide), fun _ => bX12_bits_4 ⟨fun _ => k, fun c => absurd (by decide) c⟩⟩⟩⟩⟩⟩)
theorem x_thrown (hr : RC S F e (M, G, c) h) (hM : M 1000 0 = 0) (k : Q (.inl (some (.int (M 50 0)))) h) : WP d mX12_thrown 0 [some (.ref 210)] [] h Q := by
  refine bX12_thrown_0 ⟨q0 hr hM, ?_⟩
  rw [qI_50 hr hM]
  exact k
theorem x_follows (hr : RC S F e (M, G, c) h) (hM : M 1000 0 = 0) {m : Nat} (hm : m < 5) (k : ∀ h', RC S F e (followS M m, G, c) h' → Q (.inl none) h') : WP d mX12_follows 0 [some (.ref 210), some (.int (Int32.ofNat m))] [] h Q := by
  refine bX12_follows_0 ?_
  simp (disch := omega) only [q0 hr hM, qR_11 hr hM, qK_11 hr hM, qi_11 hr hM, qA_11 hr hM, qR_23 hr hM, qK_23 hr hM, qi_23 hr hM, qA_23 hr hM, o_c, o_add, o_addn, o_nadd, o_muln, o_le, o_lt, o_nle, o_len, o_nlt, o_ltn, o_eq, o_eqn, o_neq, o_sub1, true_and]
  exact k _ (rm_23 m 0 (rm_11 m 0 hr))
theorem x_termAt (hr : RC S F e (M, G, c) h) (hM : M 1000 0 = 0) {m l p : Nat} (hm : m < 5) (hl : M 12 m = Int32.ofNat l) (h30 : l ≤ 30) (hp : p ≤ l) (k : Q (.inl (some (.int (tmAt M m (Int32.ofNat p))))) h) : WP d mX12_termAt 0 [some (.ref 210), some (.int (Int32.ofNat m)), some (.int (Int32.ofNat p))] [] h Q := by
  unfold tmAt at k
  rw [hl, o_i _ (by omega), o_i _ (by omega)] at k
  refine bX12_termAt_0 ?_
  rw [o_eqn _ _ (by decide) (by omega)]
  refine ⟨fun c => ?_, fun c => ?_⟩
  · have c' : p ≠ 0 := c
    simp (disch := omega) only [q0 hr hM, qR_14 hr hM, qK_14 hr hM, qi_14 hr hM, qA_14 hr hM, o_c, o_add, o_addn, o_nadd, o_muln, o_le, o_lt, o_nle, o_len, o_nlt, o_ltn, o_eq, o_eqn, o_neq, o_sub1, true_and]
    rw [if_pos (by omega)] at k
    have e : 30 * m + p - 1 = 30 * m + ((p : Int) - 1).toNat := by omega
    rw [e]
    exact k
  · have c' : p = 0 := Classical.not_not.mp c
    rw [if_neg (by omega)] at k
    exact k
theorem x_promises (hr : RC S F e (M, G, c) h) (hM : M 1000 0 = 0) {m : Nat} (hm : m < 5) (k : Q (.inl (some (.int (b2i (promB M G m))))) h) : WP d mX12_promises 0 [some (.ref 210), some (.int (Int32.ofNat m))] [] h Q := by
  refine bX12_promises_0 ?_
  simp (disch := omega) only [q0 hr hM, qR_25 hr hM, qK_25 hr hM, qi_25 hr hM, qA_25 hr hM, qR_7 hr hM, qK_7 hr hM, qi_7 hr hM, qA_7 hr hM, qR_26 hr hM, qK_26 hr hM, qi_26 hr hM, qA_26 hr hM, o_c, o_add, o_addn, o_nadd, o_muln, o_le, o_lt, o_nle, o_len, o_nlt, o_ltn, o_eq, o_eqn, o_neq, o_sub1, true_and]
  unfold promB fltG at k
  refine ⟨fun c => ?_, fun c => ⟨fun c2 => ?_, fun c2 => ?_⟩⟩
  · simpa [b2i, c] using k
  · simpa [b2i, c, c2] using k
  · simpa [b2i, c, c2] using k
end REFA
