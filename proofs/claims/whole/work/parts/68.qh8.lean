/-! ===== calls of the class: begin ===== -/
section BEG
variable {S S' : SI} {F : SF} {e : EX} {X : MX} {h h' : HP} {d : Nat} {Q : Out → HP → Prop} {e1 : Int32} {e3 : RW × UInt32} {n a b na i j : Nat}
/-- decision j of machine i as it begins -/
def chR (S : SI) (k : Nat) : SI := u2 (u2 (u2 (u2 (u2 S 27 k (-1)) 28 k (-1)) 29 k (-1)) 30 k (-1)) 31 k (-1)
theorem w_chRenew (hr : RC S F e X h) (hi : i < 5) (hj : j < 4) (k : ∀ h', RC (chR S (4 * i + j)) F e X h' → Q (.inl none) h') : WP (d + 1) mX2_renew 0 [some (.ref (158 + 12 * i + j))] [] h Q := by
  have hs := rcS hr
  have ch := cho_of hr hi hj
  have K := st_K_158 hs hi hj
  refine bX2_renew_0 ⟨K, by omega, bX2_dropProposal_0 ⟨K, ?_⟩⟩
  rw [KK_ret]
  refine bX2_renew_24 (k _ (rc_cho hr hi hj (fun f q hq => ?_) ?_ (fun s q hq => ?_) ?_))
  · rw [ne_sI (by omega), ne_sI (by omega), ne_sI (by omega), ne_sI (by omega), ne_sI (by omega)]
  · rw [sI_snd, sI_snd, sI_snd, sI_snd, sI_snd]
  · unfold chR
    rw [u2_ne (by omega), u2_ne (by omega), u2_ne (by omega), u2_ne (by omega), u2_ne (by omega)]
  · unfold CHO chR
    simp [hI_sI, u2]
/-- the first j machines as they begin, and l decisions more -/
def renJ (S : SI) (j l : Nat) : SI := fun s k => if s = 5 ∧ k < j then 1 else if s = 9 ∧ k < j then 0 else if s = 10 ∧ k < j then -1 else if s = 11 ∧ k < j then 0 else if s = 12 ∧ k < j then 0 else if s = 13 ∧ k < j then 0 else if s = 18 ∧ k < j then 0 else if s = 23 ∧ k < j then 0 else if s = 25 ∧ k < j then -1 else
  if (27 ≤ s ∧ s ≤ 31) ∧ k < l then -1 else S s k
def renF (F : SF) (j : Nat) : SF := fun s k => if s = 7 ∧ k < j then FP.fconst0 else if s = 8 ∧ k < j then FP.fconst1 else F s k
theorem renJ_ch : chR (renJ S j a) a = renJ S j (a + 1) := by
  funext s k
  by_cases c : (27 ≤ s ∧ s ≤ 31)
  · have e1 : renJ S j (a + 1) s k = if k < a + 1 then -1 else S s k := by
      unfold renJ
      rw [if_neg (by omega), if_neg (by omega), if_neg (by omega), if_neg (by omega), if_neg (by omega), if_neg (by omega), if_neg (by omega), if_neg (by omega), if_neg (by omega)]
      by_cases c2 : k < a + 1
      · rw [if_pos ⟨c, c2⟩, if_pos c2]
      · rw [if_neg (fun w => c2 w.2), if_neg c2]
    have e2 : renJ S j a s k = if k < a then -1 else S s k := by
      unfold renJ
      rw [if_neg (by omega), if_neg (by omega), if_neg (by omega), if_neg (by omega), if_neg (by omega), if_neg (by omega), if_neg (by omega), if_neg (by omega), if_neg (by omega)]
      by_cases c2 : k < a
      · rw [if_pos ⟨c, c2⟩, if_pos c2]
      · rw [if_neg (fun w => c2 w.2), if_neg c2]
    rw [e1]
    unfold chR
    by_cases c3 : k = a
    · subst c3
      rw [if_pos (by omega)]
      have : s = 27 ∨ s = 28 ∨ s = 29 ∨ s = 30 ∨ s = 31 := by omega
      rcases this with rfl | rfl | rfl | rfl | rfl <;> simp [u2]
    · rw [u2_ne (by omega), u2_ne (by omega), u2_ne (by omega), u2_ne (by omega), u2_ne (by omega), e2]
      by_cases c4 : k < a
      · rw [if_pos c4, if_pos (by omega)]
      · rw [if_neg c4, if_neg (by omega)]
  · have e3 : chR (renJ S j a) a s k = renJ S j a s k := by
      unfold chR
      rw [u2_ne (by omega), u2_ne (by omega), u2_ne (by omega), u2_ne (by omega), u2_ne (by omega)]
    rw [e3]
    have z : ∀ l, renJ S j l s k = renJ S j 0 s k := fun l => by
      unfold renJ
      rw [if_neg (show ¬ ((27 ≤ s ∧ s ≤ 31) ∧ k < l) from fun w => c w.1), if_neg (show ¬ ((27 ≤ s ∧ s ≤ 31) ∧ k < 0) from fun w => c w.1)]
    rw [z a, z (a + 1)]
theorem w_renew_59 (hi : i < 5) (k : ∀ h', RC (renJ S (i + 1) (4 * i + 4)) F e X h' → Q (.inl none) h') :
    ∀ (m j : Nat) (h : HP), j + m = 4 → RC (renJ S (i + 1) (4 * i + j)) F e X h → WP (d + 2) mX8_renew 59 [some (.ref (150 + 12 * i)), some (.int (Int32.ofNat j))] [] h Q := by
  intro m
  induction m with
  | zero =>
    intro j h hj hr
    obtain rfl : j = 4 := by omega
    exact bX8_renew_59 ⟨fun _ => k h hr, fun c => absurd (by decide) c⟩
  | succ m ih =>
    intro j h hj hr
    have hs := rcS hr
    have hj4 : j < 4 := by omega
    refine bX8_renew_59 ?_
    rw [o_nle _ _ (by decide) (by omega), o_c _ (by omega), st_R_803_150 hs hi, st_AR_157_e hs hi hj4, st_K_157 hs hi]
    refine ⟨fun c => by omega, fun _ => ⟨st_K_150 hs hi, ⟨by decide, by decide⟩, inA_o (st_L_157 hs hi) (by omega) (by decide), by omega, st_K_158 hs hi hj4, w_chRenew hr hi hj4 ?_⟩⟩
    intro h2 hr2
    rw [KK_ret]
    refine bX8_renew_73 ?_
    rw [o_addn]
    rw [renJ_ch] at hr2
    exact ih (j + 1) h2 (by omega) hr2
/-- what was promised to nobody lets its time be any -/
theorem rc_F26 {w : UInt32} (hr : RC S (u2 F 26 i w) e X h) (h25 : S 25 i = -1) : RC S F e X h := by
  obtain ⟨hs, hrow, hm, hl, hle, hc, hn, hh, hg⟩ := hr
  refine ⟨hs, hrow, fun j hj => ?_, hl, hle, hc, hn, hh, hg⟩
  have q := hm j hj
  refine ⟨q.1, q.2.1, q.2.2.1, q.2.2.2.1, q.2.2.2.2.1, q.2.2.2.2.2.1, q.2.2.2.2.2.2.1, q.2.2.2.2.2.2.2.1, q.2.2.2.2.2.2.2.2.1, fun c => ?_⟩
  have q2 := q.2.2.2.2.2.2.2.2.2 c
  rw [u2_ne (Or.inr (fun w => c (by rw [w]; exact h25)))] at q2
  exact q2
theorem renJ_mach : followS (u2 (u2 (u2 (u2 (u2 (u2 (u2 (renJ S i (4 * i)) 5 i 1) 9 i 0) 10 i (-1)) 13 i 0) 18 i 0) 25 i (-1)) 12 i 0) i = renJ S (i + 1) (4 * i) := by
  funext s k
  unfold followS
  by_cases c : k = i
  · subst c
    have cases : s = 5 ∨ s = 9 ∨ s = 10 ∨ s = 11 ∨ s = 12 ∨ s = 13 ∨ s = 18 ∨ s = 23 ∨ s = 25 ∨ (s ≠ 5 ∧ s ≠ 9 ∧ s ≠ 10 ∧ s ≠ 11 ∧ s ≠ 12 ∧ s ≠ 13 ∧ s ≠ 18 ∧ s ≠ 23 ∧ s ≠ 25) := by omega
    rcases cases with rfl | rfl | rfl | rfl | rfl | rfl | rfl | rfl | rfl | ⟨h1, h2, h3, h4, h5, h6, h7, h8, h9⟩
    · simp [u2, renJ]
    · simp [u2, renJ]
    · simp [u2, renJ]
    · simp [u2, renJ]
    · simp [u2, renJ]
    · simp [u2, renJ]
    · simp [u2, renJ]
    · simp [u2, renJ]
    · simp [u2, renJ]
    · simp [u2, renJ, h1, h2, h3, h4, h5, h6, h7, h8, h9]
  · rw [u2_ne (by omega), u2_ne (by omega), u2_ne (by omega), u2_ne (by omega), u2_ne (by omega), u2_ne (by omega), u2_ne (by omega), u2_ne (by omega), u2_ne (by omega)]
    have z : (k < i) = (k < i + 1) := propext ⟨fun w => by omega, fun w => by omega⟩
    unfold renJ
    simp only [z]
theorem renF_mach : u2 (u2 (renF F i) 7 i FP.fconst0) 8 i FP.fconst1 = renF F (i + 1) := by
  funext s k
  by_cases c : k = i
  · subst c
    by_cases c7 : s = 7
    · subst c7; simp [u2, renF]
    · by_cases c8 : s = 8
      · subst c8; simp [u2, renF]
      · simp [u2, renF, c7, c8]
  · rw [u2_ne (by omega), u2_ne (by omega)]
    have z : (k < i) = (k < i + 1) := propext ⟨fun w => by omega, fun w => by omega⟩
    unfold renF
    simp only [z]
theorem w_mRenew (hr : RC (renJ S i (4 * i)) (renF F i) e X h) (hi : i < 5) (hl : ∃ l, S 12 i = Int32.ofNat l ∧ l ≤ 30) {u : Option Value} (k : ∀ h', RC (renJ S (i + 1) (4 * i + 4)) (renF F (i + 1)) e X h' → Q (.inl none) h') : WP (d + 2) mX8_renew 0 [some (.ref (150 + 12 * i)), u] [] h Q := by
  have hs := rcS hr
  obtain ⟨l, hl1, hl2⟩ := hl
  have r1 := rc_up (i := i) (v := 1) hr
  have r2 := rc_clock (i := i) (v := FP.fconst0) r1
  have r3 := rc_rate (i := i) (v := FP.fconst1) r2
  have r4 := rc_term (i := i) (v := 0) r3
  have r5 := rc_vote (i := i) (v := -1) r4
  have r6 := rc_commit (i := i) (v := 0) r5
  have r7 := rc_voters (i := i) (v := 0) r6
  have r8 := rc_F26 (i := i) (rc_promise (i := i) (v := -1) (w := FP.fconst0) r7) u2_eq
  refine bX8_renew_0 ⟨st_K_150 hs hi, ?_⟩
  rw [st_R_801_150 hs hi]
  have e12 : (renJ S i (4 * i)) 12 i = Int32.ofNat l := by
    unfold renJ
    rw [if_neg (by omega), if_neg (by omega), if_neg (by omega), if_neg (by omega), if_neg (by omega), if_neg (by omega), if_neg (by omega), if_neg (by omega), if_neg (by omega), if_neg (by omega)]
    exact hl1
  refine ⟨by omega, st_K_151 hs hi, w_cutBehind (x := 0) (n := l) r8 hi ?_ hl2 (Nat.zero_le _) ?_⟩
  · rw [u2_ne (by omega), u2_ne (by omega), u2_ne (by omega), u2_ne (by omega), u2_ne (by omega), u2_ne (by omega)]
    exact e12
  · intro h2 hr2 _ _ _ _
    rw [KK_ret]
    refine bX8_renew_53 ⟨by omega, st_K_150 (rcS hr2) hi, w_follow2 hr2 hi ?_⟩
    intro h3 hr3 er3
    rw [KK_ret]
    have e : followS (u2 (u2 (u2 (u2 (u2 (u2 (u2 (renJ S i (4 * i)) 5 i 1) 9 i 0) 10 i (-1)) 13 i 0) 18 i 0) 25 i (-1)) 12 i (Int32.ofNat 0)) i = renJ S (i + 1) (4 * i) := renJ_mach
    rw [e, renF_mach] at hr3
    exact bX8_renew_57 (w_renew_59 hi k 4 0 h3 rfl hr3)
/-- the first j cuts taken away -/
def cutJ (S : SI) (j : Nat) : SI := fun s k => if s = 6 ∧ k < j then 0 else S s k
theorem cutJ_succ : u2 (cutJ S j) 6 j 0 = cutJ S (j + 1) := by
  funext s k
  show (if s = 6 ∧ k = j then (0 : Int32) else if s = 6 ∧ k < j then 0 else S s k) = if s = 6 ∧ k < j + 1 then 0 else S s k
  by_cases c : s = 6 ∧ k = j
  · rw [if_pos c, if_pos ⟨c.1, by omega⟩]
  · rw [if_neg c]
    by_cases c2 : s = 6 ∧ k < j
    · rw [if_pos c2, if_pos ⟨c2.1, by omega⟩]
    · rw [if_neg c2, if_neg (by omega)]
theorem w_nRenew_17 {x : Int32} (k : ∀ h', RC (cutJ S 25) F e X h' → Q (.inl none) h') :
    ∀ (m j : Nat) (h : HP), j + m = 25 → RC (cutJ S j) F e X h → WP d mX10_renew 17 [some (.ref 4), some (.int x), some (.int (Int32.ofNat j))] [] h Q := by
  intro m
  induction m with
  | zero =>
    intro j h hj hr
    have hs := rcS hr
    obtain rfl : j = 25 := by omega
    refine bX10_renew_17 ⟨st_K_4 hs, ?_⟩
    rw [st_R_1004_4 hs, st_K_6 hs, st_L_6 hs]
    exact ⟨⟨by decide, by decide⟩, fun _ => k h hr, fun c => absurd (by decide) c⟩
  | succ m ih =>
    intro j h hj hr
    have hs := rcS hr
    refine bX10_renew_17 ⟨st_K_4 hs, ?_⟩
    rw [st_R_1004_4 hs, st_K_6 hs, st_L_6 hs, o_le _ _ (by decide) (by omega), o_c _ (by omega), o_addn]
    refine ⟨⟨by decide, by decide⟩, fun c => by omega, fun _ => ⟨rfl, inA_o (st_L_6 hs) (by omega) (by decide), ih (j + 1) _ (by omega) ?_⟩⟩
    rw [← cutJ_succ]
    exact rc_cut hr
/-- the net as it begins: no message, so many machines -/
def netB (S : SI) (x : Int32) : SI := u2 (u2 S 0 0 x) 39 0 0
theorem rc_netB {x : Int32} (hr : RC S F (e1, 0, e3) X h) : RC (netB S x) F (0 - S 40 0, 0, e3) X (sI (sI (sI h 1000 4 x) 1001 4 0) 1002 4 0) := by
  obtain ⟨hs, hrow, hm, hl, hle, hc, hn, hh, hg⟩ := hr
  refine ⟨STR_sI (f := 1002) (by decide) (STR_sI (f := 1001) (by decide) (STR_sI (by decide) hs)), hrow, hm, hl, hle, hc, ⟨?_, ?_, ?_, hn.2.2.2.1, fun p hp hq => ?_, ?_⟩, hh, hg⟩
  · rw [ne_sI (by omega), ne_sI (by omega), hI_sI, if_pos ⟨rfl, rfl⟩]
    unfold netB
    rw [u2_ne (by omega), u2_eq]
  · rw [ne_sI (by omega), hI_sI, if_pos ⟨rfl, rfl⟩]
    unfold netB
    rw [u2_eq]
    rfl
  · rw [hI_sI, if_pos ⟨rfl, rfl⟩]
    show 0 = S 40 0 + (0 - S 40 0)
    rw [Int32.add_comm, Int32.sub_add_cancel]
  · have hq' : (p : Int) < (netB S x 39 0).toInt := hq
    unfold netB at hq'
    rw [u2_eq, i_zero] at hq'
    omega
  · have m1 := mset_hi hrow.2.1
    have q := hn.2.2.2.2.2
    exact MSGw_sI (h := sI (sI h 1000 4 x) 1001 4 0) (by show hR h 1005 4 ≠ 4; omega) (by decide) (MSGw_sI (h := sI h 1000 4 x) (by show hR h 1005 4 ≠ 4; omega) (by decide) (MSGw_sI (h := h) (by show hR h 1005 4 ≠ 4; omega) (by decide) q))
/-- the history as it begins -/
theorem rc_hisB (hr : RC S F e X h) : RC (u2 (u2 S 47 0 0) 4 0 0) F e X (sI (sI (sI h 402 133 0) 404 133 0) 403 133 0) := by
  obtain ⟨hs, hrow, hm, hl, hle, hc, hn, hh, hg⟩ := hr
  refine ⟨STR_sI (f := 403) (by decide) (STR_sI (f := 404) (by decide) (STR_sI (by decide) hs)), hrow, hm, hl, hle, hc, hn, ⟨?_, ?_, ?_, fun r b hb => ?_, fun a ha hq => ?_⟩, hg⟩
  · rw [ne_sI (by omega), ne_sI (by omega), hI_sI, if_pos ⟨rfl, rfl⟩, u2_ne (by omega), u2_eq]
  · rw [hI_sI, if_pos ⟨rfl, rfl⟩, u2_eq]
  · rw [ne_sI (by omega), hI_sI, if_pos ⟨rfl, rfl⟩, u2_ne (by omega), u2_eq]
    rfl
  · rw [u2_ne (show 47 ≠ 4 ∨ 0 ≠ 0 by omega), u2_eq] at hb
    have : (rds ((u2 (u2 S 47 0 0) 4 0 0) 41) 0)[r]? = some b := hb
    cases this
  · rw [u2_ne (by omega), u2_eq, i_zero] at hq
    omega
theorem w_renew_29 (hl : ∀ m, m < 5 → ∃ l, S 12 m = Int32.ofNat l ∧ l ≤ 30) {x : Int32} (k : ∀ h', RC (renJ S 5 20) (renF F 5) e X h' → Q (.inl none) h') :
    ∀ (m j : Nat) (h : HP), j + m = 5 → RC (renJ S j (4 * j)) (renF F j) e X h → WP (d + 3) mX11_renew 29 [some (.ref 2), some (.int x), some (.int (Int32.ofNat j))] [] h Q := by
  intro m
  induction m with
  | zero =>
    intro j h hj hr
    obtain rfl : j = 5 := by omega
    exact bX11_renew_29 ⟨fun _ => k h hr, fun c => absurd (by decide) c⟩
  | succ m ih =>
    intro j h hj hr
    have hs := rcS hr
    have hj5 : j < 5 := by omega
    refine bX11_renew_29 ?_
    rw [o_nle _ _ (by decide) (by omega), st_R_1100_2 hs, o_c _ (by omega), st_AR_3_e hs hj5, st_K_3 hs]
    refine ⟨fun c => by omega, fun _ => ⟨st_K_2 hs, ⟨by decide, by decide⟩, inA_o (st_L_3 hs) (by omega) (by decide), by omega, st_K_150 hs hj5, w_mRenew hr hj5 (hl j hj5) ?_⟩⟩
    intro h2 hr2
    rw [KK_ret]
    refine bX11_renew_43 ?_
    rw [o_addn]
    have e : 4 * j + 4 = 4 * (j + 1) := by omega
    rw [e] at hr2
    exact ih (j + 1) h2 (by omega) hr2
theorem begin_S (x : Int32) : renJ (u2 (u2 (cutJ (netB S x) 25) 47 0 0) 4 0 0) 5 20 = beginS S x := by
  funext s k
  have cases : s = 0 ∨ s = 4 ∨ s = 39 ∨ s = 47 ∨ s = 5 ∨ s = 6 ∨ s = 9 ∨ s = 10 ∨ s = 11 ∨ s = 12 ∨ s = 13 ∨ s = 18 ∨ s = 23 ∨ s = 25 ∨ s = 27 ∨ s = 28 ∨ s = 29 ∨ s = 30 ∨ s = 31 ∨ (s ≠ 0 ∧ s ≠ 4 ∧ s ≠ 39 ∧ s ≠ 47 ∧ s ≠ 5 ∧ s ≠ 6 ∧ s ≠ 9 ∧ s ≠ 10 ∧ s ≠ 11 ∧ s ≠ 12 ∧ s ≠ 13 ∧ s ≠ 18 ∧ s ≠ 23 ∧ s ≠ 25 ∧ s ≠ 27 ∧ s ≠ 28 ∧ s ≠ 29 ∧ s ≠ 30 ∧ s ≠ 31) := by omega
  rcases cases with rfl | rfl | rfl | rfl | rfl | rfl | rfl | rfl | rfl | rfl | rfl | rfl | rfl | rfl | rfl | rfl | rfl | rfl | rfl | ⟨h1, h2, h3, h4, h5, h6, h7, h8, h9, h10, h11, h12, h13, h14, h15, h16, h17, h18, h19⟩
  all_goals simp only [renJ, u2, cutJ, netB, beginS]
  all_goals try simp
  · rw [if_neg (by omega), if_neg (by omega)]
    all_goals simp [h1, h2, h3, h4, h5, h6, h7, h8, h9, h10, h11, h12, h13, h14, h15, h16, h17, h18, h19]
    all_goals (intro a b; omega)
theorem begin_F : renF (u2 (u2 (u2 F 2 0 1092616192) 3 0 FP.fconst0) 1 0 FP.fconst0) 5 = beginF F := by
  funext s k
  have cases : s = 1 ∨ s = 2 ∨ s = 3 ∨ s = 7 ∨ s = 8 ∨ (s ≠ 1 ∧ s ≠ 2 ∧ s ≠ 3 ∧ s ≠ 7 ∧ s ≠ 8) := by omega
  rcases cases with rfl | rfl | rfl | rfl | rfl | ⟨h1, h2, h3, h4, h5⟩
  all_goals simp only [renF, u2, beginF]
  all_goals try simp
  all_goals simp [h1, h2, h3, h4, h5]
theorem w_renew (hr : RC S F (e1, 0, e3) X h) (hl : ∀ m, m < 5 → ∃ l, S 12 m = Int32.ofNat l ∧ l ≤ 30) {x : Int32} {u : Option Value} (k : ∀ h' e1', RC (beginS S x) (beginF F) (e1', 0, e3) X h' → Q (.inl none) h') : WP (d + 4) mX11_renew 0 [some (.ref 2), some (.int x), u] [] h Q := by
  have hs := rcS hr
  refine bX11_renew_0 ⟨st_K_2 hs, ?_⟩
  rw [st_R_1101_2 hs]
  have r1 := rc_netB (x := x) hr
  refine ⟨by decide, st_K_4 hs, bX10_renew_0 ⟨st_K_4 hs, w_nRenew_17 (S := netB S x) (F := F) (X := X) (e := (0 - S 40 0, 0, e3)) ?_ 25 0 _ rfl ?_⟩⟩
  · intro h2 hr2
    have hs2 := rcS hr2
    rw [KK_ret]
    refine bX11_renew_8 ⟨st_K_2 hs2, ?_⟩
    rw [st_R_1102_2 hs2]
    refine ⟨by decide, st_K_131 hs2, bX6_renew_0 ⟨st_K_131 hs2, ?_⟩⟩
    rw [KK_ret]
    have r3 := rc_bound (w := FP.fconst0) (rc_span (w := 1092616192) hr2)
    have hs3 := rcS r3
    refine bX11_renew_15 ⟨st_K_2 hs3, ?_⟩
    rw [st_R_1104_2 hs3]
    refine ⟨by decide, st_K_133 hs3, bX4_renew_0 ⟨st_K_133 hs3, ?_⟩⟩
    rw [KK_ret]
    have r4 := rc_hisB r3
    have hs4 := rcS r4
    refine bX11_renew_22 ⟨st_K_2 hs4, ?_⟩
    have r5 := rc_time (w := FP.fconst0) r4
    refine w_renew_29 (S := u2 (u2 (cutJ (netB S x) 25) 47 0 0) 4 0 0) (F := u2 (u2 (u2 F 2 0 1092616192) 3 0 FP.fconst0) 1 0 FP.fconst0) (X := X) (e := (0 - S 40 0, 0, e3)) (fun m hm => ?_) ?_ 5 0 _ rfl ?_
    · exact hl m hm
    · intro h6 hr6
      rw [begin_S, begin_F] at hr6
      exact k h6 _ hr6
    · have e1 : renJ (u2 (u2 (cutJ (netB S x) 25) 47 0 0) 4 0 0) 0 (4 * 0) = u2 (u2 (cutJ (netB S x) 25) 47 0 0) 4 0 0 := by
        funext s k
        unfold renJ
        rw [if_neg (by omega), if_neg (by omega), if_neg (by omega), if_neg (by omega), if_neg (by omega), if_neg (by omega), if_neg (by omega), if_neg (by omega), if_neg (by omega), if_neg (by omega)]
      have e2 : renF (u2 (u2 (u2 F 2 0 1092616192) 3 0 FP.fconst0) 1 0 FP.fconst0) 0 = u2 (u2 (u2 F 2 0 1092616192) 3 0 FP.fconst0) 1 0 FP.fconst0 := by
        funext s k
        unfold renF
        rw [if_neg (by omega), if_neg (by omega)]
      rw [e1, e2]
      exact r5
  · have e : cutJ (netB S x) 0 = netB S x := by
      funext s k
      unfold cutJ
      rw [if_neg (by omega)]
    rw [e]
    exact r1
theorem c_begin (hr : RC S F (e1, 0, e3) X h) (hl : ∀ m, m < 5 → ∃ l, S 12 m = Int32.ofNat l ∧ l ≤ 30) {x : Int32} {u : Option Value} (k1 : ¬ (x = 3 ∨ x = 5) → ∀ h', RC S F (e1, 0, e3) (thX X) h' → Q (.inr 1) h') (k : (x = 3 ∨ x = 5) → ∀ h' e1', RC (beginS S x) (beginF F) (e1', 0, e3) X h' → Q (.inl (some (.int (S 0 0)))) h') : WP (d + 5) mX11_begin 0 [some (.ref 2), some (.int x), u] [] h Q := by
  have hs := rcS hr
  have go : (x = 3 ∨ x = 5) → WP (d + 4) mX11_renew 0 [some (.ref 2), some (.int x), none] [] h (KK (d + 4) mX11_begin mX11_renew 30 [some (.ref 2), some (.int x), some (.int (S 0 0))] [] Q) := by
    intro c
    refine w_renew hr hl ?_
    intro h2 e1' hr2
    rw [KK_ret]
    exact bX11_begin_33 (k c h2 e1' hr2)
  refine bX11_begin_0 ?_
  rw [st_R_1101_2 hs, rd_n hr]
  exact ⟨fun c => ⟨st_K_2 hs, st_K_4 hs, by decide, go (Or.inl c)⟩, fun c => ⟨fun c2 => ⟨st_K_2 hs, st_K_4 hs, by decide, go (Or.inr c2)⟩, fun c2 => k1 (fun w => w.elim c c2) _ (rc_thr hr)⟩⟩
end BEG
