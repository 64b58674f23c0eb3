/-! ===== the reference: the net and the bench ===== -/
section REFC
variable {S : SI} {F : SF} {e : EX} {M : SI} {G : SF} {c : Nat × Nat × Nat × (Nat → Int32)} {h : HP} {d : Nat} {Q : Out → HP → Prop} {n j l q : Nat}
/-- the first j slots of the message behind the row emptied -/
def zJ (M : SI) (q j : Nat) : SI := fun s k => if s = 37 ∧ (24 * q ≤ k ∧ k < 24 * q + j) then 0 else M s k
theorem zJ_succ : u2 (zJ M q j) 37 (24 * q + j) 0 = zJ M q (j + 1) := by
  funext s k
  show (if s = 37 ∧ k = 24 * q + j then (0 : Int32) else if s = 37 ∧ (24 * q ≤ k ∧ k < 24 * q + j) then 0 else M s k) = if s = 37 ∧ (24 * q ≤ k ∧ k < 24 * q + (j + 1)) then 0 else M s k
  by_cases c1 : s = 37 ∧ k = 24 * q + j
  · rw [if_pos c1, if_pos (by omega)]
  · rw [if_neg c1]
    by_cases c2 : s = 37 ∧ (24 * q ≤ k ∧ k < 24 * q + j)
    · rw [if_pos c2, if_pos (by omega)]
    · rw [if_neg c2, if_neg (by omega)]
theorem push_ref {w0 w1 w2 w3 : Int32} (hq : M 39 0 = Int32.ofNat q) (hq60 : q < 60) : u2 (u2 (u2 (u2 (u2 (zJ M q 24) 37 (24 * q) w0) 37 (24 * q + 1) w1) 37 (24 * q + 2) w2) 37 (24 * q + 3) w3) 39 0 (M 39 0 + 1) = pushS M (w4 w0 w1 w2 w3) := by
  have hn : nt (M 39 0) = q := nt_of hq (by omega)
  funext s k
  unfold pushS
  rw [hn]
  by_cases c1 : s = 37 ∧ (q < 60 ∧ 24 * q ≤ k ∧ k < 24 * q + 24)
  · rw [if_pos c1]
    obtain ⟨rfl, h1, h2, h3⟩ := c1
    rw [u2_ne (by omega)]
    unfold w4
    by_cases k3 : k = 24 * q + 3
    · rw [k3, u2_eq, if_neg (by omega), if_neg (by omega), if_neg (by omega), if_pos (by omega)]
    · rw [u2_ne (by omega)]
      by_cases k2 : k = 24 * q + 2
      · rw [k2, u2_eq, if_neg (by omega), if_neg (by omega), if_pos (by omega)]
      · rw [u2_ne (by omega)]
        by_cases k1 : k = 24 * q + 1
        · rw [k1, u2_eq, if_neg (by omega), if_pos (by omega)]
        · rw [u2_ne (by omega)]
          by_cases k0 : k = 24 * q
          · rw [k0, u2_eq, if_pos (by omega)]
          · rw [u2_ne (by omega), if_neg (by omega), if_neg (by omega), if_neg (by omega), if_neg (by omega)]
            unfold zJ
            rw [if_pos ⟨rfl, h2, h3⟩]
  · rw [if_neg c1]
    by_cases c2 : s = 39 ∧ k = 0
    · rw [if_pos (by omega), c2.1, c2.2, u2_eq]
    · rw [if_neg (by omega), u2_ne (by omega), u2_ne (by omega), u2_ne (by omega), u2_ne (by omega), u2_ne (by omega)]
      unfold zJ
      rw [if_neg (by omega)]
theorem pushF_ref {w : UInt32} (hq : M 39 0 = Int32.ofNat q) (hq60 : q < 60) : u2 G 38 q w = pushF M G w := by
  have hn : nt (M 39 0) = q := nt_of hq (by omega)
  funext s k
  unfold pushF u2
  rw [hn]
  by_cases c1 : s = 38 ∧ k = q
  · rw [if_pos c1, if_pos ⟨c1.1, hq60, c1.2⟩]
  · rw [if_neg c1, if_neg (fun w => c1 ⟨w.1, w.2.2⟩)]
theorem push_full {w : RW} (hq : M 39 0 = Int32.ofNat 60) : pushS M w = M := by
  have hn : nt (M 39 0) = 60 := nt_of hq (by omega)
  funext s k
  unfold pushS
  rw [hn, if_neg (by omega), if_neg (by omega)]
theorem pushF_full {w : UInt32} (hq : M 39 0 = Int32.ofNat 60) : pushF M G w = G := by
  have hn : nt (M 39 0) = 60 := nt_of hq (by omega)
  funext s k
  unfold pushF
  rw [hn, if_neg (by omega)]
theorem x_sends_43 (hM : M 1000 0 = 0) (hq : M 39 0 = Int32.ofNat q) (hq60 : q < 60) {w0 w1 w2 w3 : Int32} (k : ∀ h', RC S F e (pushS M (w4 w0 w1 w2 w3), pushF M G FP.fconst0, c) h' → Q (.inl (some (.int (Int32.ofNat (24 * q))))) h') :
    ∀ (m j : Nat) (h : HP), j + m = 24 → RC S F e (zJ M q j, G, c) h → WP d mX12_sends 43 [some (.ref 210), some (.int w0), some (.int w1), some (.int w2), some (.int w3), some (.int (Int32.ofNat (24 * q))), some (.int (Int32.ofNat j))] [] h Q := by
  intro m
  induction m with
  | zero =>
    intro j h hj hr
    obtain rfl : j = 24 := by omega
    have hM' : zJ M q 24 1000 0 = 0 := hM
    have e39 : zJ M q 24 39 0 = Int32.ofNat q := hq
    refine bX12_sends_43 ⟨fun _ => ?_, fun c => absurd (by decide) c⟩
    have hM := hM'
    simp (disch := omega) only [q0 hr hM, qR_38 hr hM, qK_38 hr hM, qi_38 hr hM, qA_38 hr hM, qR_37 hr hM, qK_37 hr hM, qi_37 hr hM, qA_37 hr hM, qI_39 hr hM, e39, o_c, o_add, o_addn, o_nadd, o_muln, o_le, o_lt, o_nle, o_len, o_nlt, o_ltn, o_eq, o_eqn, o_neq, o_sub1, true_and]
    refine k _ ?_
    rw [← push_ref hq hq60, ← pushF_ref hq hq60, hq, o_addn]
    exact rm_39 _ (rm_37 _ _ (rm_37 _ _ (rm_37 _ _ (rm_37 _ _ (rm_38 _ _ hr)))))
  | succ m ih =>
    intro j h hj hr
    have hM' : zJ M q j 1000 0 = 0 := hM
    refine bX12_sends_43 ?_
    have hM := hM'
    simp (disch := omega) only [q0 hr hM, qR_37 hr hM, qK_37 hr hM, qi_37 hr hM, qA_37 hr hM, o_c, o_add, o_addn, o_nadd, o_muln, o_le, o_lt, o_nle, o_len, o_nlt, o_ltn, o_eq, o_eqn, o_neq, o_sub1, true_and]
    refine ⟨fun q => absurd q (show ¬ 24 ≤ j by omega), fun _ => ih (j + 1) _ (by omega) ?_⟩
    rw [← zJ_succ]
    exact rm_37 _ 0 hr
/-- where a message begins -/
def atI (q : Nat) : Int32 := if q < 60 then Int32.ofNat (24 * q) else -1
theorem x_sends (hr : RC S F e (M, G, c) h) (hM : M 1000 0 = 0) (hq : M 39 0 = Int32.ofNat q) (hq60 : q ≤ 60) {w0 w1 w2 w3 : Int32} {u v : Option Value} (k : ∀ h', RC S F e ((snd (M, G) (w4 w0 w1 w2 w3) FP.fconst0).1, (snd (M, G) (w4 w0 w1 w2 w3) FP.fconst0).2, c) h' → Q (.inl (some (.int (atI q)))) h') : WP d mX12_sends 0 [some (.ref 210), some (.int w0), some (.int w1), some (.int w2), some (.int w3), u, v] [] h Q := by
  have r1 := rm_40 (M 40 0 + 1) hr
  have hM1 : (u2 M 40 0 (M 40 0 + 1)) 1000 0 = 0 := hM
  have hq1 : (u2 M 40 0 (M 40 0 + 1)) 39 0 = Int32.ofNat q := hq
  refine bX12_sends_0 ⟨q0 hr hM, ?_⟩
  rw [qI_40 hr hM, qI_39 r1 hM1, hq1, o_nle _ _ (by decide) (by omega)]
  unfold atI at k
  refine ⟨fun c1 => ⟨fun c2 => absurd rfl c2, fun _ => ?_⟩, fun c1 => ⟨fun _ => ?_, fun c2 => ?_⟩⟩
  · have c1' : 60 ≤ q := c1
    obtain rfl : q = 60 := by omega
    rw [if_neg (by omega)] at k
    refine k _ ?_
    have e1 : (snd (M, G) (w4 w0 w1 w2 w3) FP.fconst0).1 = u2 M 40 0 (M 40 0 + 1) := push_full (M := sentS M) hq
    have e2 : (snd (M, G) (w4 w0 w1 w2 w3) FP.fconst0).2 = G := pushF_full hq
    rw [e1, e2]
    exact r1
  · have c1' : ¬ 60 ≤ q := c1
    rw [if_pos (by omega)] at k
    rw [o_muln]
    refine x_sends_43 (S := S) (F := F) (e := e) (G := G) (c := c) (M := u2 M 40 0 (M 40 0 + 1)) hM1 hq1 (by omega) k 24 0 _ rfl ?_
    have e : zJ (u2 M 40 0 (M 40 0 + 1)) q 0 = u2 M 40 0 (M 40 0 + 1) := by
      funext s k
      unfold zJ
      rw [if_neg (by omega)]
    rw [e]
    exact r1
  · have c1' : ¬ 60 ≤ q := c1
    refine absurd ?_ c2
    rw [o_muln, o_ne1 _ (by omega)]
    exact fun w => w
theorem x_leaves_41 (hM : M 1000 0 = 0) {p : Nat} (hq : M 39 0 = Int32.ofNat q) (hq60 : q ≤ 60) (hp : p < q) (k : ∀ h', RC S F e (u2 M 39 0 (Int32.ofNat (q - 1)), (fun s k => if s = 38 ∧ (p ≤ k ∧ k < q - 1) then G 38 (k + 1) else G s k), c) h' → Q (.inl none) h') :
    ∀ (m i : Nat) (h : HP), p ≤ i → i + m = q - 1 → RC S F e (M, (fun s k => if s = 38 ∧ (p ≤ k ∧ k < i) then G 38 (k + 1) else G s k), c) h → WP d mX12_leaves 41 [some (.ref 210), some (.int (Int32.ofNat p)), some (.int (Int32.ofNat i))] [] h Q := by
  intro m
  induction m with
  | zero =>
    intro i h hi hj hr
    obtain rfl : i = q - 1 := by omega
    refine bX12_leaves_41 ?_
    simp (disch := omega) only [q0 hr hM, qI_39 hr hM, hq, o_c, o_add, o_addn, o_nadd, o_muln, o_le, o_lt, o_nle, o_len, o_nlt, o_ltn, o_eq, o_eqn, o_neq, o_sub1, true_and]
    exact ⟨fun _ => k _ (rm_39 _ hr), fun c => absurd (Nat.le_refl _) c⟩
  | succ m ih =>
    intro i h hi hj hr
    refine bX12_leaves_41 ?_
    simp (disch := omega) only [q0 hr hM, qI_39 hr hM, qR_38 hr hM, qK_38 hr hM, qi_38 hr hM, qA_38 hr hM, hq, o_c, o_add, o_addn, o_nadd, o_muln, o_le, o_lt, o_nle, o_len, o_nlt, o_ltn, o_eq, o_eqn, o_neq, o_sub1, true_and]
    refine ⟨fun c => by omega, fun _ => ih (i + 1) _ (by omega) (by omega) ?_⟩
    have r := rm_38 i (if p ≤ i + 1 ∧ i + 1 < i then G 38 (i + 1 + 1) else G 38 (i + 1)) hr
    have e : (u2 (fun s k => if s = 38 ∧ (p ≤ k ∧ k < i) then G 38 (k + 1) else G s k) 38 i (if p ≤ i + 1 ∧ i + 1 < i then G 38 (i + 1 + 1) else G 38 (i + 1))) = (fun s k => if s = 38 ∧ (p ≤ k ∧ k < i + 1) then G 38 (k + 1) else G s k) := by
      funext s k
      rw [if_neg (show ¬ (p ≤ i + 1 ∧ i + 1 < i) by omega)]
      show (if s = 38 ∧ k = i then G 38 (i + 1) else if s = 38 ∧ (p ≤ k ∧ k < i) then G 38 (k + 1) else G s k) = _
      by_cases c1 : s = 38 ∧ k = i
      · rw [if_pos c1, if_pos (by omega), c1.2]
      · rw [if_neg c1]
        by_cases c2 : s = 38 ∧ (p ≤ k ∧ k < i)
        · rw [if_pos c2, if_pos (by omega)]
        · rw [if_neg c2, if_neg (by omega)]
    rw [e] at r
    exact r
theorem x_leaves_5 (hM : M 1000 0 = 0) {p : Nat} (hq : M 39 0 = Int32.ofNat q) (hq60 : q ≤ 60) (hp : p < q) (k : ∀ h', RC S F e (leaveS M p, leaveF M G p, c) h' → Q (.inl none) h') :
    ∀ (m i : Nat) (h : HP), 24 * p ≤ i → i + m = 24 * (q - 1) → RC S F e ((fun s k => if s = 37 ∧ (24 * p ≤ k ∧ k < i) then M 37 (k + 24) else M s k), G, c) h → WP d mX12_leaves 5 [some (.ref 210), some (.int (Int32.ofNat p)), some (.int (Int32.ofNat i))] [] h Q := by
  have hn : nt (M 39 0) = q := nt_of hq (by omega)
  intro m
  induction m with
  | zero =>
    intro i h hi hj hr
    obtain rfl : i = 24 * (q - 1) := by omega
    have hM' : (fun s k => if s = 37 ∧ (24 * p ≤ k ∧ k < 24 * (q - 1)) then M 37 (k + 24) else M s k : SI) 1000 0 = 0 := hM
    have hq' : (fun s k => if s = 37 ∧ (24 * p ≤ k ∧ k < 24 * (q - 1)) then M 37 (k + 24) else M s k : SI) 39 0 = Int32.ofNat q := hq
    refine bX12_leaves_5 ⟨q0 hr hM', ?_⟩
    have hM := hM'
    have e39 : hI h 1239 210 = Int32.ofNat q := (qI_39 hr hM).trans hq'
    rw [e39, o_sub1 _ (by omega), o_muln, o_le _ _ (by omega) (by omega)]
    refine ⟨fun _ => x_leaves_41 (S := S) (F := F) (e := e) (c := c) (G := G) (M := fun s k => if s = 37 ∧ (24 * p ≤ k ∧ k < 24 * (q - 1)) then M 37 (k + 24) else M s k) hM hq' hq60 hp ?_ (q - 1 - p) p h (Nat.le_refl _) (by omega) ?_, fun c => absurd (Nat.le_refl _) c⟩
    · intro h' hr'
      refine k h' ?_
      have e1 : leaveS M p = u2 (fun s k => if s = 37 ∧ (24 * p ≤ k ∧ k < 24 * (q - 1)) then M 37 (k + 24) else M s k) 39 0 (Int32.ofNat (q - 1)) := by
        funext s k
        unfold leaveS u2
        rw [hn, hq, o_sub1 _ (by omega)]
        by_cases c1 : s = 37 ∧ (24 * p ≤ k ∧ k < 24 * (q - 1))
        · rw [if_pos c1, if_neg (by omega)]
          exact (if_pos c1).symm
        · rw [if_neg c1]
          by_cases c2 : s = 39 ∧ k = 0
          · rw [if_pos c2, if_pos c2]
          · rw [if_neg c2, if_neg c2]
            exact (if_neg c1).symm
      have e2 : leaveF M G p = (fun s k => if s = 38 ∧ (p ≤ k ∧ k < q - 1) then G 38 (k + 1) else G s k) := by
        unfold leaveF
        rw [hn]
      rw [e1, e2]
      exact hr'
    · have e2 : (fun s k => if s = 38 ∧ (p ≤ k ∧ k < p) then G 38 (k + 1) else G s k) = G := by
        funext s k
        rw [if_neg (by omega)]
      rw [e2]
      exact hr
  | succ m ih =>
    intro i h hi hj hr
    have hM' : (fun s k => if s = 37 ∧ (24 * p ≤ k ∧ k < i) then M 37 (k + 24) else M s k : SI) 1000 0 = 0 := hM
    have hq' : (fun s k => if s = 37 ∧ (24 * p ≤ k ∧ k < i) then M 37 (k + 24) else M s k : SI) 39 0 = Int32.ofNat q := hq
    refine bX12_leaves_5 ⟨q0 hr hM', ?_⟩
    have hM := hM'
    have e39 : hI h 1239 210 = Int32.ofNat q := (qI_39 hr hM).trans hq'
    rw [e39, o_sub1 _ (by omega), o_muln, o_le _ _ (by omega) (by omega)]
    simp (disch := omega) only [q0 hr hM, qR_37 hr hM, qK_37 hr hM, qi_37 hr hM, qA_37 hr hM, o_c, o_add, o_addn, o_nadd, o_muln, o_le, o_lt, o_nle, o_len, o_nlt, o_ltn, o_eq, o_eqn, o_neq, o_sub1, true_and]
    refine ⟨fun c => by omega, fun _ => ih (i + 1) _ (by omega) (by omega) ?_⟩
    have r := rm_37 i (if 24 * p ≤ i + 24 ∧ i + 24 < i then M 37 (i + 24 + 24) else M 37 (i + 24)) hr
    have e : (u2 (fun s k => if s = 37 ∧ (24 * p ≤ k ∧ k < i) then M 37 (k + 24) else M s k) 37 i (if 24 * p ≤ i + 24 ∧ i + 24 < i then M 37 (i + 24 + 24) else M 37 (i + 24))) = (fun s k => if s = 37 ∧ (24 * p ≤ k ∧ k < i + 1) then M 37 (k + 24) else M s k) := by
      funext s k
      rw [if_neg (show ¬ (24 * p ≤ i + 24 ∧ i + 24 < i) by omega)]
      show (if s = 37 ∧ k = i then M 37 (i + 24) else if s = 37 ∧ (24 * p ≤ k ∧ k < i) then M 37 (k + 24) else M s k) = _
      by_cases c1 : s = 37 ∧ k = i
      · rw [if_pos c1, if_pos (by omega), c1.2]
      · rw [if_neg c1]
        by_cases c2 : s = 37 ∧ (24 * p ≤ k ∧ k < i)
        · rw [if_pos c2, if_pos (by omega)]
        · rw [if_neg c2, if_neg (by omega)]
    rw [e] at r
    exact r
theorem x_leaves (hr : RC S F e (M, G, c) h) (hM : M 1000 0 = 0) {p : Nat} (hq : M 39 0 = Int32.ofNat q) (hq60 : q ≤ 60) (hp : p < q) {u : Option Value} (k : ∀ h', RC S F e (leaveS M p, leaveF M G p, c) h' → Q (.inl none) h') : WP d mX12_leaves 0 [some (.ref 210), some (.int (Int32.ofNat p)), u] [] h Q := by
  refine bX12_leaves_0 ?_
  rw [o_muln]
  refine x_leaves_5 hM hq hq60 hp k (24 * (q - 1) - 24 * p) (24 * p) h (Nat.le_refl _) (by omega) ?_
  have e2 : (fun s k => if s = 37 ∧ (24 * p ≤ k ∧ k < 24 * p) then M 37 (k + 24) else M s k) = M := by
    funext s k
    rw [if_neg (by omega)]
  rw [e2]
  exact hr
/-- in whole, a test and what is thrown -/
theorem x_lose (hr : RC S F e (M, G, c) h) (hM : M 1000 0 = 0) (hq : M 39 0 = Int32.ofNat q) (hq60 : q ≤ 60) {x : Int32} (k3 : ¬ (0 ≤ x.toInt ∧ x.toInt < q) → ∀ h', RC S F e (u2 M 50 0 1, G, c) h' → Q (.inl (some (.int 0))) h') (k : ∀ p, x = Int32.ofNat p → p < q → ∀ h', RC S F e (leaveS (stepS (u2 M 50 0 0)) p, leaveF (stepS (u2 M 50 0 0)) G p, c) h' → Q (.inl (some (.int (Int32.ofNat (q - 1))))) h') : WP (d + 2) mX12_lose 0 [some (.ref 210), some (.int x)] [] h Q := by
  refine bX12_lose_0 ⟨by decide, q0 hr hM, x_isMessage hr hM hq hq60 ?_⟩
  rw [KK_ret]
  refine bX12_lose_6 ⟨by decide, q0 hr hM, x_goes (b := true) (g := true) hr hM ?_⟩
  intro h1 hr1
  rw [KK_ret]
  by_cases cx : 0 ≤ x.toInt ∧ x.toInt < q
  · rw [decide_eq_true cx] at hr1 ⊢
    obtain ⟨p, hp, hpq⟩ := o_in cx (by omega)
    have kk := k p hp hpq
    subst hp
    have hM1 : u2 M 50 0 0 1000 0 = 0 := hM
    have r2 := rm_4 (M 4 0 + 1) hr1
    have e4 := qI_4 hr1 hM1
    have e4' : hI h1 1204 210 = M 4 0 := e4
    refine bX12_lose_11 ⟨fun _ => ⟨q0 hr1 hM1, by decide, ?_⟩, fun w => absurd (by decide) w⟩
    rw [e4']
    refine x_leaves (M := stepS (u2 M 50 0 0)) r2 hM hq hq60 hpq ?_
    intro h2 hr2
    rw [KK_ret]
    have hM2 : leaveS (stepS (u2 M 50 0 0)) p 1000 0 = 0 := hM
    refine bX12_lose_31 ⟨q0 hr2 hM2, ?_⟩
    have e39 := qI_39 hr2 hM2
    have e39' : hI h2 1239 210 = Int32.ofNat (q - 1) := by
      rw [e39]
      show M 39 0 - 1 = _
      rw [hq, o_sub1 _ (by omega)]
    rw [e39']
    exact kk h2 hr2
  · rw [decide_eq_false cx] at hr1 ⊢
    exact bX12_lose_11 ⟨fun w => absurd rfl w, fun _ => k3 cx h1 hr1⟩
end REFC
