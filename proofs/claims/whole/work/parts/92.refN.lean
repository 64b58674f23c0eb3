/-! ===== the reference: isAgreed ===== -/
section REFW
variable {S : SI} {F : SF} {e : EX} {M : SI} {G : SF} {c : Nat × Nat × Nat × (Nat → Int32)} {h : HP} {d : Nat} {Q : Out → HP → Prop} {n q l : Nat}
theorem decsW_s {i k j : Nat} : decsW M i k (j + 1) = (decsW M i k j && (decide (M 30 (4 * i + j) = -1) || decide (M 30 (4 * k + j) = -1) || decide (M 30 (4 * i + j) = M 30 (4 * k + j)))) := rfl
theorem likeU_s {i j n : Nat} : likeU M i j (n + 1) = (likeU M i j n && decide (M 14 (30 * i + n) = M 14 (30 * j + n) ∧ M 15 (30 * i + n) = M 15 (30 * j + n) ∧ M 16 (30 * i + n) = M 16 (30 * j + n) ∧ M 17 (30 * i + n) = M 17 (30 * j + n))) := rfl
theorem x_alike_150 {i k : Nat} {b : Bool} {v3 : Int32} (hr : RC S F e (M, G, c) h) (hM : M 1000 0 = 0) (hi : i < 5) (hk : k < 5) (kq : Q (.inl (some (.int (b2i (b && decsW M i k 4))))) h) :
    ∀ (t j : Nat) (u6 u7 : Option Value), j + t = 4 → WP d mX12_areAlike 150 [some (.ref 210), some (.int (Int32.ofNat i)), some (.int (Int32.ofNat k)), some (.int v3), some (.int (b2i (b && decsW M i k j))), some (.int (Int32.ofNat j)), u6, u7] [] h Q := by
  intro t
  induction t with
  | zero =>
    intro j u6 u7 hj
    obtain rfl : j = 4 := by omega
    exact bX12_areAlike_150 ⟨fun _ => ⟨isZ_b2i, kq⟩, fun w => absurd (by decide) w⟩
  | succ t ih =>
    intro j u6 u7 hj
    have nx := ih (j + 1)
    rw [decsW_s] at nx
    refine bX12_areAlike_150 ?_
    simp (disch := omega) only [q0 hr hM, qR_30 hr hM, qK_30 hr hM, qi_30 hr hM, qA_30 hr hM, o_c, o_add, o_addn, o_nadd, o_muln, o_le, o_lt, o_nle, o_len, o_nlt, o_ltn, o_eq, o_eqn, o_neq, o_sub1, true_and]
    refine ⟨fun w => by omega, fun _ => ⟨fun a => ?_, fun a => ⟨fun a1 => ?_, fun a1 => ⟨fun a2 => ?_, fun a2 => ⟨fun a3 => ?_, fun a3 => ?_⟩⟩⟩⟩⟩
    · rw [b2i_z] at a
      have : (b && (decsW M i k j && (decide (M 30 (4 * i + j) = -1) || decide (M 30 (4 * k + j) = -1) || decide (M 30 (4 * i + j) = M 30 (4 * k + j))))) = false := by
        rw [← Bool.and_assoc, a, Bool.false_and]
      rw [this] at nx
      exact nx _ _ (by omega)
    all_goals
      rw [b2i_z] at a
      have a' : (b && decsW M i k j) = true := by
        cases z : (b && decsW M i k j)
        · exact absurd z a
        · rfl
      rw [← Bool.and_assoc, a', Bool.true_and] at nx
    · rw [decide_eq_true a1, Bool.true_or, Bool.true_or] at nx
      exact nx _ _ (by omega)
    · rw [decide_eq_true a2, Bool.or_true, Bool.true_or] at nx
      exact nx _ _ (by omega)
    · rw [decide_eq_false a1, decide_eq_false a2, decide_eq_false a3] at nx
      exact nx _ _ (by omega)
    · rw [decide_eq_true (Classical.not_not.mp a3), Bool.or_true] at nx
      exact nx _ _ (by omega)
theorem x_alike_37 {i k mn : Nat} (hr : RC S F e (M, G, c) h) (hM : M 1000 0 = 0) (hi : i < 5) (hk : k < 5) (hmn : mn ≤ 30) (kq : Q (.inl (some (.int (b2i (likeU M i k mn && decsW M i k 4))))) h) :
    ∀ (t j : Nat) (u6 u7 : Option Value), j + t = mn → WP d mX12_areAlike 37 [some (.ref 210), some (.int (Int32.ofNat i)), some (.int (Int32.ofNat k)), some (.int (Int32.ofNat mn)), some (.int (b2i (likeU M i k j))), some (.int (Int32.ofNat j)), u6, u7] [] h Q := by
  intro t
  induction t with
  | zero =>
    intro j u6 u7 hj
    obtain rfl : j = mn := by omega
    refine bX12_areAlike_37 ⟨fun _ => ?_, fun w => absurd (Int32.le_refl _) w⟩
    have e0 : likeU M i k j = (likeU M i k j && decsW M i k 0) := (Bool.and_true _).symm
    rw [e0]
    exact x_alike_150 hr hM hi hk kq 4 0 u6 u7 rfl
  | succ t ih =>
    intro j u6 u7 hj
    have nx := ih (j + 1)
    rw [likeU_s] at nx
    refine bX12_areAlike_37 ?_
    simp (disch := omega) only [q0 hr hM, qR_14 hr hM, qK_14 hr hM, qi_14 hr hM, qA_14 hr hM, qR_15 hr hM, qK_15 hr hM, qi_15 hr hM, qA_15 hr hM, qR_16 hr hM, qK_16 hr hM, qi_16 hr hM, qA_16 hr hM, qR_17 hr hM, qK_17 hr hM, qi_17 hr hM, qA_17 hr hM, o_c, o_add, o_addn, o_nadd, o_muln, o_le, o_lt, o_nle, o_len, o_nlt, o_ltn, o_eq, o_eqn, o_neq, o_sub1, true_and]
    refine ⟨fun w => by omega, fun _ => ⟨fun a => ?_, fun a => ⟨fun a1 => ?_, fun a1 => ⟨fun a2 => ?_, fun a2 => ⟨fun a3 => ?_, fun a3 => ⟨fun a4 => ?_, fun a4 => ?_⟩⟩⟩⟩⟩⟩
    · rw [b2i_z] at a
      rw [a, Bool.false_and] at nx
      exact nx _ _ (by omega)
    all_goals
      rw [b2i_z] at a
      have a' : likeU M i k j = true := by
        cases z : likeU M i k j
        · exact absurd z a
        · rfl
      rw [a', Bool.true_and] at nx
    · rw [decide_eq_false (fun z => a1 z.1)] at nx
      exact nx _ _ (by omega)
    · rw [decide_eq_false (fun z => a2 z.2.1)] at nx
      exact nx _ _ (by omega)
    · rw [decide_eq_false (fun z => a3 z.2.2.1)] at nx
      exact nx _ _ (by omega)
    · rw [decide_eq_false (fun z => a4 z.2.2.2)] at nx
      exact nx _ _ (by omega)
    · rw [decide_eq_true ⟨Classical.not_not.mp a1, Classical.not_not.mp a2, Classical.not_not.mp a3, Classical.not_not.mp a4⟩] at nx
      exact nx _ _ (by omega)
theorem x_areAlike {i k ci ck : Nat} (hr : RC S F e (M, G, c) h) (hM : M 1000 0 = 0) (hi : i < 5) (hk : k < 5) (hci : M 13 i = Int32.ofNat ci) (hck : M 13 k = Int32.ofNat ck) (ci30 : ci ≤ 30) (ck30 : ck ≤ 30) {u3 u4 u5 u6 u7 : Option Value} (kq : Q (.inl (some (.int (b2i (agrW M i k))))) h) : WP d mX12_areAlike 0 [some (.ref 210), some (.int (Int32.ofNat i)), some (.int (Int32.ofNat k)), u3, u4, u5, u6, u7] [] h Q := by
  have ei : nt (M 13 i) = ci := nt_of hci (by omega)
  have ek : nt (M 13 k) = ck := nt_of hck (by omega)
  unfold agrW at kq
  rw [ei, ek, Bool.and_comm] at kq
  refine bX12_areAlike_0 ?_
  simp (disch := omega) only [q0 hr hM, qR_13 hr hM, qK_13 hr hM, qi_13 hr hM, qA_13 hr hM, hci, hck, o_c, o_add, o_addn, o_nadd, o_muln, o_le, o_lt, o_nle, o_len, o_nlt, o_ltn, o_eq, o_eqn, o_neq, o_sub1, true_and]
  refine ⟨fun a => ?_, fun a => ?_⟩
  · have em : min ci ck = ck := by omega
    rw [em] at kq
    exact x_alike_37 hr hM hi hk ck30 kq ck 0 u6 u7 (Nat.zero_add _)
  · have em : min ci ck = ci := by omega
    rw [em] at kq
    exact x_alike_37 hr hM hi hk ci30 kq ci 0 u6 u7 (Nat.zero_add _)
theorem agr1_s {i j : Nat} : agr1 M i (j + 1) = (agr1 M i j && agrW M i j) := rfl
theorem agrA_s {i : Nat} : agrA M (i + 1) = (agrA M i && agr1 M i i) := rfl
theorem x_agreed_19 {i : Nat} {b : Bool} (hr : RC S F e (M, G, c) h) (hM : M 1000 0 = 0) (hi : i < 5) (hc : ∀ i, i < 5 → ∃ ci, M 13 i = Int32.ofNat ci ∧ ci ≤ 30) (kq : ∀ v3 : Int32, WP (d + 1) mX12_isAgreed 9 [some (.ref 210), some (.int (b2i (b && agr1 M i i))), some (.int (Int32.ofNat (i + 1))), some (.int v3)] [] h Q) :
    ∀ (t j : Nat), j + t = i → WP (d + 1) mX12_isAgreed 19 [some (.ref 210), some (.int (b2i (b && agr1 M i j))), some (.int (Int32.ofNat i)), some (.int (Int32.ofNat j))] [] h Q := by
  intro t
  induction t with
  | zero =>
    intro j hj
    obtain rfl : j = i := by omega
    refine bX12_isAgreed_19 ⟨fun _ => ?_, fun w => absurd (Int32.le_refl _) w⟩
    rw [o_addn]
    exact kq _
  | succ t ih =>
    intro j hj
    have nx := ih (j + 1) (by omega)
    rw [agr1_s, ← Bool.and_assoc] at nx
    obtain ⟨ci, hci, ci30⟩ := hc i hi
    obtain ⟨ck, hck, ck30⟩ := hc j (by omega)
    refine bX12_isAgreed_19 ?_
    rw [o_le _ _ (by omega) (by omega), o_addn]
    refine ⟨fun w => by omega, fun _ => ⟨fun a => ?_, fun a => ⟨by decide, q0 hr hM, x_areAlike hr hM hi (by omega) hci hck ci30 ck30 ?_⟩⟩⟩
    · rw [b2i_z] at a
      rw [a, Bool.false_and] at nx
      rw [o_addn]
      exact nx
    · rw [b2i_z] at a
      have a' : (b && agr1 M i j) = true := by
        cases z : (b && agr1 M i j)
        · exact absurd z a
        · rfl
      rw [a', Bool.true_and] at nx
      rw [KK_ret]
      cases hw : agrW M i j
      · rw [hw] at nx
        refine bX12_isAgreed_34 ⟨fun _ => ?_, fun w => absurd rfl w⟩
        rw [o_addn]; exact nx
      · rw [hw] at nx
        refine bX12_isAgreed_34 ⟨fun w => absurd w (by decide), fun _ => ?_⟩
        rw [o_addn]; exact nx
theorem x_agreed_9 (hr : RC S F e (M, G, c) h) (hM : M 1000 0 = 0) (hn : M 0 0 = Int32.ofNat n) (hn5 : n = 3 ∨ n = 5) (hc : ∀ i, i < 5 → ∃ ci, M 13 i = Int32.ofNat ci ∧ ci ≤ 30) (kq : Q (.inl (some (.int (b2i (agrA M n))))) h) :
    ∀ (t j : Nat) (u3 : Option Value), j + t = n → WP (d + 1) mX12_isAgreed 9 [some (.ref 210), some (.int (b2i (agrA M j))), some (.int (Int32.ofNat j)), u3] [] h Q := by
  intro t
  induction t with
  | zero =>
    intro j u3 hj
    obtain rfl : j = n := by omega
    refine bX12_isAgreed_9 ⟨q0 hr hM, ?_⟩
    rw [qI_0 hr hM, hn, o_le _ _ (by omega) (by omega)]
    exact ⟨fun _ => ⟨isZ_b2i, kq⟩, fun w => absurd (Nat.le_refl _) w⟩
  | succ t ih =>
    intro j u3 hj
    refine bX12_isAgreed_9 ⟨q0 hr hM, ?_⟩
    rw [qI_0 hr hM, hn, o_le _ _ (by omega) (by omega)]
    refine ⟨fun w => by omega, fun _ => ?_⟩
    have e0 : agrA M j = (agrA M j && agr1 M j 0) := (Bool.and_true _).symm
    rw [e0]
    exact x_agreed_19 hr hM (by omega) hc (fun v3 => ih (j + 1) _ (by omega)) j 0 (Nat.zero_add _)
theorem x_isAgreed (hr : RC S F e (M, G, c) h) (hM : M 1000 0 = 0) (hn : M 0 0 = Int32.ofNat n) (hn5 : n = 3 ∨ n = 5) (hc : ∀ i, i < 5 → ∃ ci, M 13 i = Int32.ofNat ci ∧ ci ≤ 30) {u1 u2' u3 : Option Value} (kq : ∀ h', RC S F e (u2 M 50 0 0, G, c) h' → Q (.inl (some (.int (b2i (agrA (u2 M 50 0 0) n))))) h') : WP (d + 1) mX12_isAgreed 0 [some (.ref 210), u1, u2', u3] [] h Q := by
  have r := rm_50 0 hr
  have hM1 : u2 M 50 0 0 1000 0 = 0 := hM
  exact bX12_isAgreed_0 ⟨q0 hr hM, x_agreed_9 (M := u2 M 50 0 0) r hM1 hn hn5 hc (kq _ r) n 0 _ (Nat.zero_add _)⟩
end REFW
