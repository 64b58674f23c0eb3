/-! ===== machines of the class ===== -/
section MCH
variable {S : SI} {F : SF} {e : EX} {X : MX} {h : HP} {d : Nat} {Q : Out → HP → Prop} {i : Nat}
theorem w_learnTerm (hr : RC S F e X h) (hi : i < 5) {t : Int32} (k : ∀ h', RC (learnS S i t) F e X h' → hR h' = hR h → hAR h' = hAR h → Q (.inl none) h') : WP (d + 1) mX8_learnTerm 0 [some (.ref (150 + 12 * i)), some (.int t)] [] h Q := by
  refine bX8_learnTerm_0 ⟨st_K_150 (rcS hr) hi, fun c => ?_, fun c => ⟨by omega, ?_⟩⟩
  · rw [rd_term hr hi, Int32.le_iff_toInt_le] at c
    unfold learnS at k
    rw [if_neg (by rw [Int32.lt_iff_toInt_lt]; omega)] at k
    exact bX8_learnTerm_22 (k h hr rfl rfl)
  · rw [rd_term hr hi, Int32.le_iff_toInt_le] at c
    unfold learnS at k
    rw [if_pos (by rw [Int32.lt_iff_toInt_lt]; omega)] at k
    refine bX8_follow_0 ⟨st_K_150 (rcS (rc_vote (rc_term hr))) hi, ?_⟩
    rw [show hR (sI (sI h 808 (150 + 12 * i) t) 809 (150 + 12 * i) (-1)) 802 (150 + 12 * i) = 153 + 12 * i from st_R_802_150 (rcS hr) hi]
    refine ⟨st_K_153 (rcS hr) hi, ?_⟩
    rw [KK_ret]
    exact bX8_learnTerm_22 (k _ (rc_leased0 (rc_role (rc_vote (rc_term hr)))) rfl rfl)
theorem w_promise (hr : RC S F e X h) (hi : i < 5) {x : Int32} {f : UInt32} (hn : nn32 (FP.fadd (F 7 i) f) = true) (k : ∀ h', RC (u2 S 25 i x) (u2 F 26 i (FP.fadd (F 7 i) f)) e X h' → hR h' = hR h → hAR h' = hAR h → Q (.inl none) h') : WP d mX8_promise 0 [some (.ref (150 + 12 * i)), some (.int x), some (.float f)] [] h Q := by
  refine bX8_promise_0 ⟨st_K_150 (rcS hr) hi, ?_⟩
  rw [rd_clock hr hi]
  exact ⟨hn, k _ (rc_promise hr) rfl rfl⟩
theorem w_rise (hr : RC S F e X h) (hi : i < 5) {f : UInt32} (hn : nn32 (FP.fadd (F 7 i) f) = true) (k : ∀ h', RC (riseS S i) (u2 F 26 i (FP.fadd (F 7 i) f)) e X h' → Q (.inl none) h') : WP (d + 1) mX8_rise 0 [some (.ref (150 + 12 * i)), some (.float f)] [] h Q := by
  refine bX8_rise_0 ⟨st_K_150 (rcS hr) hi, by omega, ?_⟩
  rw [show hI (sI h 804 (150 + 12 * i) 1) 800 (150 + 12 * i) = Int32.ofNat i from st_I_800_150 (rcS hr) hi]
  refine w_promise (rc_up hr) hi hn ?_
  intro h' hr' _ _
  rw [KK_ret]
  exact bX8_rise_14 (k h' hr')
theorem w_letPass (hr : RC S F e X h) (hi : i < 5) {f : UInt32} (hn : nn32 (FP.fmul f (F 8 i)) = true) (hn2 : nn32 (FP.fadd (F 7 i) (FP.fmul f (F 8 i))) = true) (k : ∀ h', RC S (u2 F 7 i (FP.fadd (F 7 i) (FP.fmul f (F 8 i)))) e X h' → Q (.inl none) h') : WP d mX8_letPass 0 [some (.ref (150 + 12 * i)), some (.float f)] [] h Q := by
  refine bX8_letPass_0 ⟨st_K_150 (rcS hr) hi, ?_⟩
  rw [rd_clock hr hi, rd_rate hr hi]
  exact ⟨hn, hn2, k _ (rc_clock hr)⟩
theorem rc_drop1 (hr : RC S F e X h) (hi : i < 5) {j : Nat} (hj : j < 4) : RC (u2 S 31 (4 * i + j) (-1)) F e X (sI h 204 (158 + 12 * i + j) (-1)) := by
  obtain ⟨hs, hrow, hm, hl, hle, hc, hn, hh, hg⟩ := hr
  refine ⟨STR_sI (by decide) hs, hrow, hm, hl, hle, fun i1 d1 hi1 hd1 => ?_, hn, hh, hg⟩
  have q := hc i1 d1 hi1 hd1
  refine ⟨q.1, q.2.1, q.2.2.1, q.2.2.2.1, ?_, ?_⟩
  · by_cases c : i1 = i ∧ d1 = j
    · obtain ⟨rfl, rfl⟩ := c; simp [hI_sI, u2]
    · simp only [hI_sI, u2]
      rw [if_neg (by omega), if_neg (by omega)]
      exact q.2.2.2.2.1
  · by_cases c : i1 = i ∧ d1 = j
    · obtain ⟨rfl, rfl⟩ := c; simp [u2]
    · have e1 : u2 S 31 (4 * i + j) (-1) 31 (4 * i1 + d1) = S 31 (4 * i1 + d1) := by
        unfold u2
        rw [if_neg (by omega)]
      rw [e1]
      exact q.2.2.2.2.2
/-- the first j proposals of machine i dropped -/
def dropJ (S : SI) (i j : Nat) : SI := fun s k => if s = 31 ∧ (4 * i ≤ k ∧ k < 4 * i + j) then -1 else S s k
theorem dropJ_0 (S : SI) (i : Nat) : dropJ S i 0 = S := by
  funext s k
  unfold dropJ
  rw [if_neg (by omega)]
theorem dropJ_succ (S : SI) (i j : Nat) : u2 (dropJ S i j) 31 (4 * i + j) (-1) = dropJ S i (j + 1) := by
  funext s k
  show (if s = 31 ∧ k = 4 * i + j then (-1 : Int32) else if s = 31 ∧ (4 * i ≤ k ∧ k < 4 * i + j) then -1 else S s k) = if s = 31 ∧ (4 * i ≤ k ∧ k < 4 * i + (j + 1)) then -1 else S s k
  by_cases c : s = 31 ∧ k = 4 * i + j
  · rw [if_pos c, if_pos (by omega)]
  · rw [if_neg c]
    by_cases c2 : s = 31 ∧ (4 * i ≤ k ∧ k < 4 * i + j)
    · rw [if_pos c2, if_pos (by omega)]
    · rw [if_neg c2, if_neg (by omega)]
theorem w_crash_16 (hi : i < 5) (k : ∀ h', RC (dropS S i) F e X h' → Q (.inl none) h') :
    ∀ (m j : Nat) (h : HP), j + m = 4 → RC (dropJ S i j) F e X h → WP (d + 1) mX8_crash 16 [some (.ref (150 + 12 * i)), some (.int (Int32.ofNat j))] [] h Q := by
  intro m
  induction m with
  | zero =>
    intro j h hj hr
    obtain rfl : j = 4 := by omega
    refine bX8_crash_16 ⟨fun _ => k h hr, fun c => absurd (by decide) c⟩
  | succ m ih =>
    intro j h hj hr
    have hs := rcS hr
    refine bX8_crash_16 ?_
    rw [o_nle _ _ (by decide) (by omega), o_c _ (by omega), st_R_803_150 hs hi, st_AR_157_e hs hi (by omega), st_K_157 hs hi]
    refine ⟨fun c => by omega, fun _ => ⟨st_K_150 hs hi, ⟨by decide, by decide⟩, inA_o (st_L_157 hs hi) (by omega) (by decide), by omega, st_K_158 hs hi (by omega), bX2_dropProposal_0 ⟨st_K_158 hs hi (by omega), ?_⟩⟩⟩
    rw [KK_ret]
    refine bX8_crash_30 ?_
    rw [o_addn]
    refine ih (j + 1) _ (by omega) ?_
    rw [← dropJ_succ]
    exact rc_drop1 hr hi (by omega)
theorem w_crash (hr : RC S F e X h) (hi : i < 5) {u : Option Value} (k : ∀ h', RC (dropS (followS (u2 (u2 S 5 i 0) 13 i 0) i) i) F e X h' → Q (.inl none) h') : WP (d + 1) mX8_crash 0 [some (.ref (150 + 12 * i)), u] [] h Q := by
  refine bX8_crash_0 ⟨st_K_150 (rcS hr) hi, by omega, w_follow (rc_commit (rc_up hr)) hi ?_⟩
  intro h' hr' _ _
  rw [KK_ret]
  refine bX8_crash_14 (w_crash_16 hi k 4 0 h' rfl ?_)
  rw [dropJ_0]
  exact hr'
/-- the message taken out last, as it is read -/
theorem rd_told (hr : RC S F e X h) : MSGw e.2.2.1 e.2.2.2 h (hR h 1005 4) := (rcN hr).2.2.2.2.2
theorem told_K (hr : RC S F e X h) : hK h (hR h 1005 4) = 9 := ((rcR hr).2.2.2.2 _ (Or.inl (rcR hr).2.1)).1
theorem told_R (hr : RC S F e X h) : hR h 909 (hR h 1005 4) = hR h 1005 4 + 1 := ((rcR hr).2.2.2.2 _ (Or.inl (rcR hr).2.1)).2.1
theorem told_K1 (hr : RC S F e X h) : hK h (hR h 1005 4 + 1) = 27 := ((rcR hr).2.2.2.2 _ (Or.inl (rcR hr).2.1)).2.2.1
theorem told_L1 (hr : RC S F e X h) : hL h (hR h 1005 4 + 1) = 3 := ((rcR hr).2.2.2.2 _ (Or.inl (rcR hr).2.1)).2.2.2.1
theorem told_1 (hr : RC S F e X h) : 1 < hR h 1005 4 := by
  rcases (rcR hr).2.1 with q | ⟨o, ho, q⟩ <;> omega
/-- whether the vote can go to the one that asks -/
def voteB (S : SI) (F : SF) (m : Nat) (w : RW) : Bool := (decide (S 10 m = -1) || decide (S 10 m = w 1)) && (decide (tmAt S m (S 12 m) < w 5) || decide (w 5 = tmAt S m (S 12 m)) && decide (S 12 m ≤ w 4)) && !(promB S F m && decide (S 25 m ≠ w 1))
theorem i_nlt {x y : Int32} : (¬ x < y) = (y ≤ x) := by
  rw [Int32.lt_iff_toInt_lt, Int32.le_iff_toInt_le]
  exact propext ⟨fun h => by omega, fun h => by omega⟩
theorem w_canVote_55 (hr : RC S F e X h) (hi : i < 5) (h0 : e.2.2.1 0 = 0) {u : Option Value} (k : Q (.inl (some (.int (b2i (decide (tmAt S i (S 12 i) < e.2.2.1 5) || decide (e.2.2.1 5 = tmAt S i (S 12 i)) && decide (S 12 i ≤ e.2.2.1 4)))))) h) : WP d mX8_canVoteFor 55 [some (.ref (150 + 12 * i)), some (.ref (hR h 1005 4)), u] [.int (tmAt S i (S 12 i))] h Q := by
  have m := rd_told hr
  refine bX8_canVoteFor_55 ⟨told_K hr, ?_⟩
  rw [st_R_801_150 (rcS hr) hi, rd_len hr hi, m.2.2.2.2.2.1 (Or.inl h0), m.2.2.2.2.2.2.1 (Or.inl h0)]
  refine ⟨fun c => ?_, fun c => ⟨fun c2 => ?_, fun c2 => ⟨st_K_150 (rcS hr) hi, st_K_151 (rcS hr) hi, fun c3 => ?_, fun c3 => ?_⟩⟩⟩
  · simpa [b2i, c] using k
  · simpa [b2i, c, c2] using k
  · rw [← Classical.not_not (a := e.2.2.1 4 < S 12 i), i_nlt] at c3
    simpa [b2i, c, Classical.not_not.mp c2, c3] using k
  · rw [i_nlt] at c3
    simpa [b2i, c, Classical.not_not.mp c2, c3] using k
theorem w_canVote (hr : RC S F e X h) (hi : i < 5) (h30 : (S 12 i).toInt ≤ 30) (h0 : e.2.2.1 0 = 0) {u : Option Value} (k : Q (.inl (some (.int (b2i (voteB S F i e.2.2.1))))) h) : WP (d + 2) mX8_canVoteFor 0 [some (.ref (150 + 12 * i)), some (.ref (hR h 1005 4)), u] [] h Q := by
  have hs := rcS hr
  have m := rd_told hr
  have k2 : ∀ b : Bool, b = (decide (S 10 i = -1) || decide (S 10 i = e.2.2.1 1)) → b = true → WP (d + 1) mX8_hasPromised 0 [some (.ref (150 + 12 * i))] [] h (KK (d + 1) mX8_canVoteFor mX8_hasPromised 22 [some (.ref (150 + 12 * i)), some (.ref (hR h 1005 4)), u] [] Q) := by
    intro b hb hbt
    refine w_hasPromised hr hi ?_
    rw [KK_ret]
    refine bX8_canVoteFor_25 ?_
    rw [st_R_801_150 hs hi, rd_len hr hi, rd_pto hr hi, m.2.1]
    have kf : (promB S F i = true → S 25 i = e.2.2.1 1) → WP (d + 1) mX7_termAt 0 [some (.ref (151 + 12 * i)), some (.int (S 12 i)), none] [] h (KK (d + 1) mX8_canVoteFor mX7_termAt 52 [some (.ref (150 + 12 * i)), some (.ref (hR h 1005 4)), u] [] Q) := by
      intro hp
      refine w_termAt hs (rcL hr) hi h30 ?_
      rw [KK_ret]
      refine w_canVote_55 hr hi h0 ?_
      unfold voteB at k
      rw [← hb, hbt] at k
      have : (promB S F i && decide (S 25 i ≠ e.2.2.1 1)) = false := by
        cases hpb : promB S F i with
        | false => rfl
        | true => simp [hp hpb]
      rw [this] at k
      simpa using k
    refine ⟨fun c => ⟨st_K_150 hs hi, st_K_151 hs hi, by omega, kf (fun q => by rw [q] at c; exact absurd c (by decide))⟩, fun c => ⟨st_K_150 hs hi, told_K hr, fun c2 => ⟨st_K_151 hs hi, by omega, kf (fun _ => c2)⟩, fun c2 => ?_⟩⟩
    have hp : promB S F i = true := by
      cases hpb : promB S F i with
      | false => rw [hpb] at c; exact absurd rfl c
      | true => rfl
    unfold voteB at k
    simpa [hp, c2, b2i] using k
  refine bX8_canVoteFor_0 ⟨st_K_150 hs hi, ?_⟩
  rw [rd_vote hr hi, m.2.1]
  refine ⟨fun c => ⟨by omega, k2 true (by simp [c]) rfl⟩, fun c => ⟨told_K hr, fun c2 => ⟨by omega, k2 true (by simp [c2]) rfl⟩, fun c2 => ?_⟩⟩
  unfold voteB at k
  simpa [c, c2, b2i] using k
end MCH
