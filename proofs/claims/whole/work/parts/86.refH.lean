/-! ===== the reference: actOf, acts, entryOf, valueOf, holdsLease ===== -/
section REFQ
variable {S : SI} {F : SF} {e : EX} {M : SI} {G : SF} {c : Nat × Nat × Nat × (Nat → Int32)} {h : HP} {d : Nat} {Q : Out → HP → Prop} {n q l : Nat}
theorem x_actOf_2 {na : Nat} {cl s : Int32} (hr : RC S F e (M, G, c) h) (hM : M 1000 0 = 0) (ha : M 47 0 = Int32.ofNat na) (ha14 : na ≤ 14) (hz : ∀ a, a < na → M 41 a = 0 ∨ M 41 a = 1) (k0 : actOf M cl s 0 na = none → Q (.inl (some (.int (-1)))) h) (k : ∀ a, a < na → actOf M cl s 0 na = some a → Q (.inl (some (.int (Int32.ofNat a)))) h) :
    ∀ (m j : Nat), j + m = na → actOf M cl s 0 na = actOf M cl s j m → WP d mX12_actOf 2 [some (.ref 210), some (.int cl), some (.int s), some (.int (Int32.ofNat j))] [] h Q := by
  intro m
  induction m with
  | zero =>
    intro j hj he
    obtain rfl : j = na := by omega
    refine bX12_actOf_2 ⟨q0 hr hM, ?_⟩
    rw [qI_47 hr hM, ha, o_le _ _ (by omega) (by omega)]
    exact ⟨fun _ => k0 he, fun w => absurd (Nat.le_refl _) w⟩
  | succ m ih =>
    intro j hj he
    have st : actOf M cl s j (m + 1) = if M 41 j = 1 ∧ M 42 j = cl ∧ M 43 j = s then some j else actOf M cl s (j + 1) m := rfl
    rw [st] at he
    refine bX12_actOf_2 ⟨q0 hr hM, ?_⟩
    rw [qI_47 hr hM, ha, o_le _ _ (by omega) (by omega)]
    simp (disch := omega) only [q0 hr hM, qR_41 hr hM, qK_41 hr hM, qi_41 hr hM, qA_41 hr hM, qR_42 hr hM, qK_42 hr hM, qi_42 hr hM, qA_42 hr hM, qR_43 hr hM, qK_43 hr hM, qi_43 hr hM, qA_43 hr hM, o_c, o_add, o_addn, o_nadd, o_muln, o_le, o_lt, o_nle, o_len, o_nlt, o_ltn, o_eq, o_eqn, o_neq, o_sub1, true_and]
    refine ⟨fun w => by omega, fun _ => ⟨fun a => ih (j + 1) (by omega) ?_, fun a => ⟨fun b => ih (j + 1) (by omega) ?_, fun b => ⟨fun g => ih (j + 1) (by omega) ?_, fun g => ?_⟩⟩⟩⟩
    · rw [he, if_neg (fun z => by rw [a] at z; exact absurd z.1 (by decide))]
    · rw [he, if_neg (fun z => b z.2.1)]
    · rw [he, if_neg (fun z => g z.2.2)]
    · rw [if_pos ⟨(hz j (by omega)).resolve_left a, Classical.not_not.mp b, Classical.not_not.mp g⟩] at he
      exact k j (by omega) he
theorem x_actOf {na : Nat} {cl s : Int32} (hr : RC S F e (M, G, c) h) (hM : M 1000 0 = 0) (ha : M 47 0 = Int32.ofNat na) (ha14 : na ≤ 14) (hz : ∀ a, a < na → M 41 a = 0 ∨ M 41 a = 1) {u : Option Value} (k0 : actOf M cl s 0 na = none → Q (.inl (some (.int (-1)))) h) (k : ∀ a, a < na → actOf M cl s 0 na = some a → Q (.inl (some (.int (Int32.ofNat a)))) h) : WP d mX12_actOf 0 [some (.ref 210), some (.int cl), some (.int s), u] [] h Q :=
  bX12_actOf_0 (x_actOf_2 hr hM ha ha14 hz k0 k na 0 (Nat.zero_add _) rfl)
theorem x_acts {na : Nat} {w cl s v an : Int32} (hr : RC S F e (M, G, c) h) (hM : M 1000 0 = 0) (ha : M 47 0 = Int32.ofNat na) (ha14 : na < 14) (hw : isZ w = true) (k : ∀ h', RC S F e (actS M w cl s v an, G, c) h' → Q (.inl none) h') : WP d mX12_acts 0 [some (.ref 210), some (.int w), some (.int cl), some (.int s), some (.int v), some (.int an)] [] h Q := by
  have en : nt (M 47 0) = na := nt_of ha (by omega)
  unfold actS at k
  rw [en] at k
  refine bX12_acts_0 ?_
  simp (disch := omega) only [q0 hr hM, qR_41 hr hM, qK_41 hr hM, qi_41 hr hM, qA_41 hr hM, qR_42 hr hM, qK_42 hr hM, qi_42 hr hM, qA_42 hr hM, qR_43 hr hM, qK_43 hr hM, qi_43 hr hM, qA_43 hr hM, qR_44 hr hM, qK_44 hr hM, qi_44 hr hM, qA_44 hr hM, qR_45 hr hM, qK_45 hr hM, qi_45 hr hM, qA_45 hr hM, qR_46 hr hM, qK_46 hr hM, qi_46 hr hM, qA_46 hr hM, qI_47 hr hM, qI_4 hr hM, ha, o_c, o_add, o_addn, o_nadd, o_muln, o_le, o_lt, o_nle, o_len, o_nlt, o_ltn, o_eq, o_eqn, o_neq, o_sub1, true_and]
  refine ⟨hw, k _ ?_⟩
  rw [ha, o_addn]
  exact rm_47 (Int32.ofNat (na + 1)) (rm_46 na an (rm_45 na (M 4 0) (rm_44 na v (rm_43 na s (rm_42 na cl (rm_41 na w hr))))))
theorem x_entry1_3 {m : Nat} {cl s : Int32} (hr : RC S F e (M, G, c) h) (hM : M 1000 0 = 0) (hm : m < 5) (hl : M 12 m = Int32.ofNat l) (h30 : l ≤ 30) (k : ∀ x : Int32, (x = 0 ↔ outd M m cl s l = false) → Q (.inl (some (.int x))) h) :
    ∀ (t j : Nat) (u : Option Value), j + t = l → outd M m cl s j = false → WP d mX12_entryOf 3 [some (.ref 210), some (.int (Int32.ofNat m)), some (.int cl), some (.int s), some (.int 1), some (.int (Int32.ofNat j)), u] [] h Q := by
  intro t
  induction t with
  | zero =>
    intro j u hj ho
    obtain rfl : j = l := by omega
    refine bX12_entryOf_3 ?_
    simp (disch := omega) only [q0 hr hM, qR_12 hr hM, qK_12 hr hM, qi_12 hr hM, qA_12 hr hM, hl, o_c, o_add, o_addn, o_nadd, o_muln, o_le, o_lt, o_nle, o_len, o_nlt, o_ltn, o_eq, o_eqn, o_neq, o_sub1, true_and]
    exact ⟨fun _ => k 0 ⟨fun _ => ho, fun _ => rfl⟩, fun w => absurd (Nat.le_refl _) w⟩
  | succ t ih =>
    intro j u hj ho
    have st : outd M m cl s (j + 1) = (outd M m cl s j || (decide (M 15 (30 * m + j) = cl) && decide (s ≤ M 16 (30 * m + j)))) := rfl
    rw [ho, Bool.false_or] at st
    have yes : (M 15 (30 * m + j) = cl ∧ s ≤ M 16 (30 * m + j)) → Q (.inl (some (.int (Int32.ofNat (j + 1))))) h := by
      intro z
      have t1 : outd M m cl s (j + 1) = true := by rw [st]; simp [z.1, z.2]
      have t2 := outd_mono t1 (show j + 1 ≤ l by omega)
      refine k _ ⟨fun w => ?_, fun w => ?_⟩
      · rw [o_eqn _ _ (by decide) (by omega)] at w
        exact absurd w (by show ¬ j + 1 = 0; omega)
      · rw [t2] at w; exact absurd w (by decide)
    refine bX12_entryOf_3 ?_
    simp (disch := omega) only [q0 hr hM, qR_12 hr hM, qK_12 hr hM, qi_12 hr hM, qA_12 hr hM, qR_15 hr hM, qK_15 hr hM, qi_15 hr hM, qA_15 hr hM, qR_16 hr hM, qK_16 hr hM, qi_16 hr hM, qA_16 hr hM, hl, i10, o_c, o_add, o_addn, o_nadd, o_muln, o_le, o_lt, o_nle, o_len, o_nlt, o_ltn, o_eq, o_eqn, o_neq, o_sub1, true_and, forall_const, not_true_eq_false, false_implies, and_true, not_false_eq_true, implies_true]
    refine ⟨fun w => by omega, fun _ => ⟨fun a => ih (j + 1) _ (by omega) ?_, fun a => ⟨fun b => ?_, fun b => ⟨fun g => ih (j + 1) _ (by omega) ?_, fun g => ?_⟩⟩⟩⟩
    · rw [st]; simp [a]
    · exact yes ⟨Classical.not_not.mp a, by rw [b]; exact Int32.le_refl _⟩
    · rw [st]
      have : ¬ s ≤ M 16 (30 * m + j) := fun z => b (Int32.le_antisymm g z)
      simp [this]
    · exact yes ⟨Classical.not_not.mp a, Int32.le_of_lt (Int32.not_le.mp g)⟩
theorem x_entry0_3 {m : Nat} {cl s : Int32} (hr : RC S F e (M, G, c) h) (hM : M 1000 0 = 0) (hm : m < 5) (hl : M 12 m = Int32.ofNat l) (h30 : l ≤ 30) :
    ∀ (t j : Nat) (u : Option Value), j + t = l → Q (.inl (some (.int (Int32.ofNat (numG M m cl s j t))))) h → WP d mX12_entryOf 3 [some (.ref 210), some (.int (Int32.ofNat m)), some (.int cl), some (.int s), some (.int 0), some (.int (Int32.ofNat j)), u] [] h Q := by
  intro t
  induction t with
  | zero =>
    intro j u hj k
    obtain rfl : j = l := by omega
    refine bX12_entryOf_3 ?_
    simp (disch := omega) only [q0 hr hM, qR_12 hr hM, qK_12 hr hM, qi_12 hr hM, qA_12 hr hM, hl, o_c, o_add, o_addn, o_nadd, o_muln, o_le, o_lt, o_nle, o_len, o_nlt, o_ltn, o_eq, o_eqn, o_neq, o_sub1, true_and]
    exact ⟨fun _ => k, fun w => absurd (Nat.le_refl _) w⟩
  | succ t ih =>
    intro j u hj k
    have st : numG M m cl s j (t + 1) = if M 15 (30 * m + j) = cl ∧ M 16 (30 * m + j) = s then j + 1 else numG M m cl s (j + 1) t := rfl
    rw [st] at k
    refine bX12_entryOf_3 ?_
    simp (disch := omega) only [q0 hr hM, qR_12 hr hM, qK_12 hr hM, qi_12 hr hM, qA_12 hr hM, qR_15 hr hM, qK_15 hr hM, qi_15 hr hM, qA_15 hr hM, qR_16 hr hM, qK_16 hr hM, qi_16 hr hM, qA_16 hr hM, hl, o_c, o_add, o_addn, o_nadd, o_muln, o_le, o_lt, o_nle, o_len, o_nlt, o_ltn, o_eq, o_eqn, o_neq, o_sub1, true_and, forall_const, not_true_eq_false, false_implies, and_true, not_false_eq_true, implies_true]
    refine ⟨fun w => by omega, fun _ => ⟨fun a => ih (j + 1) _ (by omega) ?_, fun a => ⟨fun b => ?_, fun b => ih (j + 1) _ (by omega) ?_⟩⟩⟩
    · rw [if_neg (fun z => a z.1)] at k; exact k
    · rw [if_pos ⟨Classical.not_not.mp a, b⟩] at k; exact k
    · rw [if_neg (fun z => b z.2)] at k; exact k
theorem x_entryOf1 {m : Nat} {cl s : Int32} (hr : RC S F e (M, G, c) h) (hM : M 1000 0 = 0) (hm : m < 5) (hl : M 12 m = Int32.ofNat l) (h30 : l ≤ 30) {u5 u6 : Option Value} (k : ∀ x : Int32, (x = 0 ↔ outd M m cl s l = false) → Q (.inl (some (.int x))) h) : WP d mX12_entryOf 0 [some (.ref 210), some (.int (Int32.ofNat m)), some (.int cl), some (.int s), some (.int 1), u5, u6] [] h Q :=
  bX12_entryOf_0 (x_entry1_3 hr hM hm hl h30 k l 0 _ (Nat.zero_add _) rfl)
theorem x_entryOf0 {m : Nat} {cl s : Int32} (hr : RC S F e (M, G, c) h) (hM : M 1000 0 = 0) (hm : m < 5) (hl : M 12 m = Int32.ofNat l) (h30 : l ≤ 30) {u5 u6 : Option Value} (k : Q (.inl (some (.int (Int32.ofNat (numG M m cl s 0 l))))) h) : WP d mX12_entryOf 0 [some (.ref 210), some (.int (Int32.ofNat m)), some (.int cl), some (.int s), some (.int 0), u5, u6] [] h Q :=
  bX12_entryOf_0 (x_entry0_3 hr hM hm hl h30 l 0 _ (Nat.zero_add _) k)
theorem x_value_31 {m i : Nat} {v2 : Int32} (hr : RC S F e (M, G, c) h) (hM : M 1000 0 = 0) (hm : m < 5) (hi : i < 30) (k : ∀ v5 v6 : Int32, WP d mX12_valueOf 4 [some (.ref 210), some (.int (Int32.ofNat m)), some (.int (if outd M m (M 15 (30 * m + i)) (M 16 (30 * m + i)) i = true then v2 else M 17 (30 * m + i))), some (.int (Int32.ofNat (i + 1))), some (.int (Int32.ofNat (30 * m + i))), some (.int v5), some (.int v6)] [] h Q) :
    ∀ (t j : Nat), j + t = i → WP d mX12_valueOf 31 [some (.ref 210), some (.int (Int32.ofNat m)), some (.int v2), some (.int (Int32.ofNat i)), some (.int (Int32.ofNat (30 * m + i))), some (.int (b2i (!outd M m (M 15 (30 * m + i)) (M 16 (30 * m + i)) j))), some (.int (Int32.ofNat (30 * m + j)))] [] h Q := by
  intro t
  induction t with
  | zero =>
    intro j hj
    obtain rfl : j = i := by omega
    refine bX12_valueOf_31 ?_
    simp (disch := omega) only [q0 hr hM, qR_17 hr hM, qK_17 hr hM, qi_17 hr hM, qA_17 hr hM, o_c, o_add, o_addn, o_nadd, o_muln, o_le, o_lt, o_nle, o_len, o_nlt, o_ltn, o_eq, o_eqn, o_neq, o_sub1, true_and]
    cases ho : outd M m (M 15 (30 * m + j)) (M 16 (30 * m + j)) j
    · rw [ho] at k
      exact ⟨fun _ => ⟨fun w => absurd w (by decide), fun _ => k _ _⟩, fun w => absurd (Nat.le_refl _) w⟩
    · rw [ho] at k
      exact ⟨fun _ => ⟨fun _ => k _ _, fun w => absurd rfl w⟩, fun w => absurd (Nat.le_refl _) w⟩
  | succ t ih =>
    intro j hj
    have st : outd M m (M 15 (30 * m + i)) (M 16 (30 * m + i)) (j + 1) = (outd M m (M 15 (30 * m + i)) (M 16 (30 * m + i)) j || (decide (M 15 (30 * m + j) = M 15 (30 * m + i)) && decide (M 16 (30 * m + i) ≤ M 16 (30 * m + j)))) := rfl
    have nx := ih (j + 1) (by omega)
    rw [st] at nx
    refine bX12_valueOf_31 ?_
    simp (disch := omega) only [q0 hr hM, qR_15 hr hM, qK_15 hr hM, qi_15 hr hM, qA_15 hr hM, qR_16 hr hM, qK_16 hr hM, qi_16 hr hM, qA_16 hr hM, o_c, o_add, o_addn, o_nadd, o_muln, o_le, o_lt, o_nle, o_len, o_nlt, o_ltn, o_eq, o_eqn, o_neq, o_sub1, true_and]
    cases ho : outd M m (M 15 (30 * m + i)) (M 16 (30 * m + i)) j
    · rw [ho, Bool.false_or] at nx
      refine ⟨fun w => by omega, fun _ => ⟨fun w => absurd w (by decide), fun _ => ⟨fun a => ?_, fun a => ⟨fun b => ?_, fun b => ?_⟩⟩⟩⟩
      · rw [decide_eq_false a] at nx; exact nx
      · rw [decide_eq_true (Classical.not_not.mp a), decide_eq_true b] at nx; exact nx
      · rw [decide_eq_true (Classical.not_not.mp a), decide_eq_false b] at nx; exact nx
    · rw [ho, Bool.true_or] at nx
      exact ⟨fun w => by omega, fun _ => ⟨fun _ => nx, fun w => absurd rfl w⟩⟩
theorem x_value_4 {m ci : Nat} (hr : RC S F e (M, G, c) h) (hM : M 1000 0 = 0) (hm : m < 5) (hc : M 13 m = Int32.ofNat ci) (hc30 : ci ≤ 30) (k : Q (.inl (some (.int (valU M m ci)))) h) :
    ∀ (t j : Nat) (u4 u5 u6 : Option Value), j + t = ci → WP d mX12_valueOf 4 [some (.ref 210), some (.int (Int32.ofNat m)), some (.int (valU M m j)), some (.int (Int32.ofNat j)), u4, u5, u6] [] h Q := by
  intro t
  induction t with
  | zero =>
    intro j u4 u5 u6 hj
    obtain rfl : j = ci := by omega
    refine bX12_valueOf_4 ?_
    simp (disch := omega) only [q0 hr hM, qR_13 hr hM, qK_13 hr hM, qi_13 hr hM, qA_13 hr hM, hc, o_c, o_add, o_addn, o_nadd, o_muln, o_le, o_lt, o_nle, o_len, o_nlt, o_ltn, o_eq, o_eqn, o_neq, o_sub1, true_and]
    exact ⟨fun _ => k, fun w => absurd (Nat.le_refl _) w⟩
  | succ t ih =>
    intro j u4 u5 u6 hj
    refine bX12_valueOf_4 ?_
    simp (disch := omega) only [q0 hr hM, qR_13 hr hM, qK_13 hr hM, qi_13 hr hM, qA_13 hr hM, hc, o_c, o_add, o_addn, o_nadd, o_muln, o_le, o_lt, o_nle, o_len, o_nlt, o_ltn, o_eq, o_eqn, o_neq, o_sub1, true_and]
    refine ⟨fun w => by omega, fun _ => ?_⟩
    exact x_value_31 (i := j) hr hM hm (by omega) (fun v5 v6 => ih (j + 1) _ _ _ (by omega)) j 0 (Nat.zero_add _)
theorem x_valueOf {m ci : Nat} (hr : RC S F e (M, G, c) h) (hM : M 1000 0 = 0) (hm : m < 5) (hc : M 13 m = Int32.ofNat ci) (hc30 : ci ≤ 30) {u2' u3 u4 u5 u6 : Option Value} (k : Q (.inl (some (.int (valU M m ci)))) h) : WP d mX12_valueOf 0 [some (.ref 210), some (.int (Int32.ofNat m)), u2', u3, u4, u5, u6] [] h Q :=
  bX12_valueOf_0 (x_value_4 hr hM hm hc hc30 k ci 0 _ _ _ (Nat.zero_add _))
/-- whether m holds a lease, in the reference's way -/
def holB (M : SI) (G : SF) (m : Nat) : Bool := !decide (M 5 m = 0) && decide (M 11 m = 2) && !decide (M 23 m = 0) && fltG (G 7 m) (G 24 m)
theorem x_holdsLease {m : Nat} (hr : RC S F e (M, G, c) h) (hM : M 1000 0 = 0) (hm : m < 5) (k : Q (.inl (some (.int (b2i (holB M G m))))) h) : WP d mX12_holdsLease 0 [some (.ref 210), some (.int (Int32.ofNat m))] [] h Q := by
  unfold holB fltG at k
  refine bX12_holdsLease_0 ?_
  simp (disch := omega) only [q0 hr hM, qR_5 hr hM, qK_5 hr hM, qi_5 hr hM, qA_5 hr hM, qR_11 hr hM, qK_11 hr hM, qi_11 hr hM, qA_11 hr hM, qR_23 hr hM, qK_23 hr hM, qi_23 hr hM, qA_23 hr hM, qR_7 hr hM, qK_7 hr hM, qi_7 hr hM, qA_7 hr hM, qR_24 hr hM, qK_24 hr hM, qi_24 hr hM, qA_24 hr hM, o_c, o_add, o_addn, o_nadd, o_muln, o_le, o_lt, o_nle, o_len, o_nlt, o_ltn, o_eq, o_eqn, o_neq, o_sub1, true_and]
  refine ⟨fun a => ?_, fun a => ⟨fun b => ?_, fun b => ⟨fun g => ?_, fun g => ⟨fun f => ?_, fun f => ?_⟩⟩⟩⟩
  · simpa [b2i, a] using k
  · simpa [b2i, a, b] using k
  · simpa [b2i, a, b, g] using k
  · simpa [b2i, a, b, g, f] using k
  · have b' := Classical.not_not.mp b
    simpa [b2i, a, b', g, f] using k
end REFQ
