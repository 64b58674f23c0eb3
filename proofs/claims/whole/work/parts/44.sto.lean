/-! ===== what a store of the class's program does to what its cells say ===== -/
theorem STR_sI {h : HP} {f a : Nat} {v : Int32} (hf : f ≠ 800) (hs : STR h) : STR (sI h f a v) := by
  refine ⟨hs.1, hs.2.1, fun i hi => ?_, hs.2.2.2⟩
  have q := hs.2.2.1 i hi
  refine ⟨q.1, q.2.1, ?_, q.2.2.2⟩
  rw [hI_sI, if_neg (fun w => hf w.1.symm)]
  exact q.2.2.1
theorem rc_up {S : SI} {F : SF} {e : EX} {X : MX} {h : HP} {i : Nat} {v : Int32} (hr : RC S F e X h) : RC (u2 S 5 i v) F e X (sI h 804 (150 + 12 * i) v) := by
  obtain ⟨hs, hrow, hm, hl, hle, hc, hn, hh, hg⟩ := hr
  refine ⟨STR_sI (by decide) hs, hrow, fun j hj => ?_, hl, hle, hc, hn, hh, hg⟩
  have q := hm j hj
  refine ⟨?_, q.2⟩
  by_cases c : j = i
  · subst c; simp [hI_sI, u2]
  · simp only [hI_sI, u2]
    rw [if_neg (by omega), if_neg (by omega)]
    exact q.1
theorem rc_role {S : SI} {F : SF} {e : EX} {X : MX} {h : HP} {i : Nat} {v : Int32} (hr : RC S F e X h) : RC (u2 S 11 i v) F e X (sI h 807 (150 + 12 * i) v) := by
  obtain ⟨hs, hrow, hm, hl, hle, hc, hn, hh, hg⟩ := hr
  refine ⟨STR_sI (by decide) hs, hrow, fun j hj => ?_, hl, hle, hc, hn, hh, hg⟩
  have q := hm j hj
  refine ⟨q.1, ?_, q.2.2⟩
  by_cases c : j = i
  · subst c; simp [hI_sI, u2]
  · simp only [hI_sI, u2]
    rw [if_neg (by omega), if_neg (by omega)]
    exact q.2.1
theorem rc_term {S : SI} {F : SF} {e : EX} {X : MX} {h : HP} {i : Nat} {v : Int32} (hr : RC S F e X h) : RC (u2 S 9 i v) F e X (sI h 808 (150 + 12 * i) v) := by
  obtain ⟨hs, hrow, hm, hl, hle, hc, hn, hh, hg⟩ := hr
  refine ⟨STR_sI (by decide) hs, hrow, fun j hj => ?_, hl, hle, hc, hn, hh, hg⟩
  have q := hm j hj
  refine ⟨q.1, q.2.1, ?_, q.2.2.2⟩
  by_cases c : j = i
  · subst c; simp [hI_sI, u2]
  · simp only [hI_sI, u2]
    rw [if_neg (by omega), if_neg (by omega)]
    exact q.2.2.1
theorem rc_vote {S : SI} {F : SF} {e : EX} {X : MX} {h : HP} {i : Nat} {v : Int32} (hr : RC S F e X h) : RC (u2 S 10 i v) F e X (sI h 809 (150 + 12 * i) v) := by
  obtain ⟨hs, hrow, hm, hl, hle, hc, hn, hh, hg⟩ := hr
  refine ⟨STR_sI (by decide) hs, hrow, fun j hj => ?_, hl, hle, hc, hn, hh, hg⟩
  have q := hm j hj
  refine ⟨q.1, q.2.1, q.2.2.1, ?_, q.2.2.2.2⟩
  by_cases c : j = i
  · subst c; simp [hI_sI, u2]
  · simp only [hI_sI, u2]
    rw [if_neg (by omega), if_neg (by omega)]
    exact q.2.2.2.1
theorem rc_commit {S : SI} {F : SF} {e : EX} {X : MX} {h : HP} {i : Nat} {v : Int32} (hr : RC S F e X h) : RC (u2 S 13 i v) F e X (sI h 810 (150 + 12 * i) v) := by
  obtain ⟨hs, hrow, hm, hl, hle, hc, hn, hh, hg⟩ := hr
  refine ⟨STR_sI (by decide) hs, hrow, fun j hj => ?_, hl, hle, hc, hn, hh, hg⟩
  have q := hm j hj
  refine ⟨q.1, q.2.1, q.2.2.1, q.2.2.2.1, ?_, q.2.2.2.2.2⟩
  by_cases c : j = i
  · subst c; simp [hI_sI, u2]
  · simp only [hI_sI, u2]
    rw [if_neg (by omega), if_neg (by omega)]
    exact q.2.2.2.2.1
theorem rc_voters {S : SI} {F : SF} {e : EX} {X : MX} {h : HP} {i : Nat} {v : Int32} (hr : RC S F e X h) : RC (u2 S 18 i v) F e X (sI h 811 (150 + 12 * i) v) := by
  obtain ⟨hs, hrow, hm, hl, hle, hc, hn, hh, hg⟩ := hr
  refine ⟨STR_sI (by decide) hs, hrow, fun j hj => ?_, hl, hle, hc, hn, hh, hg⟩
  have q := hm j hj
  refine ⟨q.1, q.2.1, q.2.2.1, q.2.2.2.1, q.2.2.2.2.1, ?_, q.2.2.2.2.2.2⟩
  by_cases c : j = i
  · subst c; simp [hI_sI, u2]
  · simp only [hI_sI, u2]
    rw [if_neg (by omega), if_neg (by omega)]
    exact q.2.2.2.2.2.1
theorem rc_clock {S : SI} {F : SF} {e : EX} {X : MX} {h : HP} {i : Nat} {v : UInt32} (hr : RC S F e X h) : RC S (u2 F 7 i v) e X (sF h 805 (150 + 12 * i) v) := by
  obtain ⟨hs, hrow, hm, hl, hle, hc, hn, hh, hg⟩ := hr
  refine ⟨hs, hrow, fun j hj => ?_, hl, hle, hc, hn, hh, hg⟩
  have q := hm j hj
  refine ⟨q.1, q.2.1, q.2.2.1, q.2.2.2.1, q.2.2.2.2.1, q.2.2.2.2.2.1, q.2.2.2.2.2.2.1, ?_, q.2.2.2.2.2.2.2.2⟩
  by_cases c : j = i
  · subst c; simp [hF_sF, u2]
  · simp only [hF_sF, u2]
    rw [if_neg (by omega), if_neg (by omega)]
    exact q.2.2.2.2.2.2.2.1
theorem rc_rate {S : SI} {F : SF} {e : EX} {X : MX} {h : HP} {i : Nat} {v : UInt32} (hr : RC S F e X h) : RC S (u2 F 8 i v) e X (sF h 806 (150 + 12 * i) v) := by
  obtain ⟨hs, hrow, hm, hl, hle, hc, hn, hh, hg⟩ := hr
  refine ⟨hs, hrow, fun j hj => ?_, hl, hle, hc, hn, hh, hg⟩
  have q := hm j hj
  refine ⟨q.1, q.2.1, q.2.2.1, q.2.2.2.1, q.2.2.2.2.1, q.2.2.2.2.2.1, q.2.2.2.2.2.2.1, q.2.2.2.2.2.2.2.1, ?_, q.2.2.2.2.2.2.2.2.2⟩
  by_cases c : j = i
  · subst c; simp [hF_sF, u2]
  · simp only [hF_sF, u2]
    rw [if_neg (by omega), if_neg (by omega)]
    exact q.2.2.2.2.2.2.2.2.1
theorem rc_promise {S : SI} {F : SF} {e : EX} {X : MX} {h : HP} {i : Nat} {v : Int32} {w : UInt32} (hr : RC S F e X h) : RC (u2 S 25 i v) (u2 F 26 i w) e X (sF (sI h 812 (150 + 12 * i) v) 813 (150 + 12 * i) w) := by
  obtain ⟨hs, hrow, hm, hl, hle, hc, hn, hh, hg⟩ := hr
  refine ⟨STR_sI (f := 812) (a := 150 + 12 * i) (v := v) (by decide) hs, hrow, fun j hj => ?_, hl, hle, hc, hn, hh, hg⟩
  have q := hm j hj
  refine ⟨q.1, q.2.1, q.2.2.1, q.2.2.2.1, q.2.2.2.2.1, q.2.2.2.2.2.1, ?_, q.2.2.2.2.2.2.2.1, q.2.2.2.2.2.2.2.2.1, ?_⟩
  · by_cases c : j = i
    · subst c; simp [hI_sF, hI_sI, u2]
    · simp only [hI_sF, hI_sI, u2]
      rw [if_neg (by omega), if_neg (by omega)]
      exact q.2.2.2.2.2.2.1
  · by_cases c : j = i
    · subst c; simp [hF_sF, u2]
    · simp only [hF_sF, hF_sI, u2]
      rw [if_neg (by omega), if_neg (by omega), if_neg (by omega)]
      exact q.2.2.2.2.2.2.2.2.2
theorem rc_leased0 {S : SI} {F : SF} {e : EX} {X : MX} {h : HP} {i : Nat} (hr : RC S F e X h) : RC (u2 S 23 i 0) F e X (sI h 504 (153 + 12 * i) 0) := by
  obtain ⟨hs, hrow, hm, hl, hle, hc, hn, hh, hg⟩ := hr
  refine ⟨STR_sI (by decide) hs, hrow, hm, hl, fun j hj => ?_, hc, hn, hh, hg⟩
  have q := hle j hj
  refine ⟨?_, ?_, q.2.2.1, q.2.2.2⟩
  · by_cases c : j = i
    · subst c; simp [hI_sI, u2]
    · simp only [hI_sI, u2]
      rw [if_neg (by omega), if_neg (by omega)]
      exact q.1
  · by_cases c : j = i
    · subst c; simp [u2]
    · simp only [u2]
      rw [if_neg (by omega)]
      exact q.2.1
theorem rc_lease {S : SI} {F : SF} {e : EX} {X : MX} {h : HP} {i : Nat} {w : UInt32} (hr : RC S F e X h) : RC (u2 S 23 i 1) (u2 F 24 i w) e X (sF (sI h 504 (153 + 12 * i) 1) 505 (153 + 12 * i) w) := by
  obtain ⟨hs, hrow, hm, hl, hle, hc, hn, hh, hg⟩ := hr
  refine ⟨STR_sI (f := 504) (a := 153 + 12 * i) (v := 1) (by decide) hs, hrow, hm, hl, fun j hj => ?_, hc, hn, hh, hg⟩
  have q := hle j hj
  refine ⟨?_, ?_, q.2.2.1, q.2.2.2⟩
  · by_cases c : j = i
    · subst c; simp [hI_sF, hI_sI, u2]
    · simp only [hI_sF, hI_sI, u2]
      rw [if_neg (by omega), if_neg (by omega)]
      exact q.1
  · by_cases c : j = i
    · subst c; simp [hF_sF, u2]
    · simp only [hF_sF, hF_sI, u2]
      rw [if_neg (by omega), if_neg (by omega), if_neg (by omega)]
      exact q.2.1
theorem rc_time {S : SI} {F : SF} {e : EX} {X : MX} {h : HP} {w : UInt32} (hr : RC S F e X h) : RC S (u2 F 1 0 w) e X (sF h 1105 2 w) := by
  obtain ⟨hs, hrow, hm, hl, hle, hc, hn, hh, hg⟩ := hr
  exact ⟨hs, hrow, hm, hl, hle, hc, hn, hh, ⟨by simp [hF_sF, u2], hg.1.2⟩, hg.2⟩
theorem rc_span {S : SI} {F : SF} {e : EX} {X : MX} {h : HP} {w : UInt32} (hr : RC S F e X h) : RC S (u2 F 2 0 w) e X (sF h 602 131 w) := by
  obtain ⟨hs, hrow, hm, hl, hle, hc, hn, hh, hg⟩ := hr
  exact ⟨hs, hrow, hm, hl, hle, hc, hn, hh, ⟨hg.1.1, by simp [hF_sF, u2], hg.1.2.2⟩, hg.2⟩
theorem rc_bound {S : SI} {F : SF} {e : EX} {X : MX} {h : HP} {w : UInt32} (hr : RC S F e X h) : RC S (u2 F 3 0 w) e X (sF h 603 131 w) := by
  obtain ⟨hs, hrow, hm, hl, hle, hc, hn, hh, hg⟩ := hr
  exact ⟨hs, hrow, hm, hl, hle, hc, hn, hh, ⟨hg.1.1, hg.1.2.1, by simp [hF_sF, u2]⟩, hg.2⟩
theorem rc_steps {S : SI} {F : SF} {e : EX} {X : MX} {h : HP} {v : Int32} (hr : RC S F e X h) : RC (u2 S 4 0 v) F e X (sI h 403 133 v) := by
  obtain ⟨hs, hrow, hm, hl, hle, hc, hn, hh, hg⟩ := hr
  exact ⟨STR_sI (by decide) hs, hrow, hm, hl, hle, hc, hn, ⟨hh.1, by simp [hI_sI, u2], hh.2.2⟩, hg⟩
theorem rc_sent {S : SI} {F : SF} {e : EX} {X : MX} {h : HP} {v : Int32} (hr : RC S F e X h) : RC S F (v - S 40 0, e.2) X (sI h 1002 4 v) := by
  obtain ⟨hs, hrow, hm, hl, hle, hc, hn, hh, hg⟩ := hr
  exact ⟨STR_sI (by decide) hs, hrow, hm, hl, hle, hc, ⟨hn.1, hn.2.1, by show hI (sI h 1002 4 v) 1002 4 = S 40 0 + (v - S 40 0); rw [Int32.add_comm, Int32.sub_add_cancel]; simp [hI_sI], hn.2.2.2⟩, hh, hg⟩
