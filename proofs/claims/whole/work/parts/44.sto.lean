/-! ===== what a store of the class's program does to what its cells say ===== -/
theorem STR_sI {h : HP} {f a : Nat} {v : Int32} (hf : f ≠ 800) (hs : STR h) : STR (sI h f a v) := by
  refine ⟨hs.1, hs.2.1, fun i hi => ?_, hs.2.2.2⟩
  have q := hs.2.2.1 i hi
  refine ⟨q.1, q.2.1, ?_, q.2.2.2⟩
  rw [hI_sI, if_neg (fun w => hf w.1.symm)]
  exact q.2.2.1
theorem rc_up {S : SI} {F : SF} {e : Int32} {h : HP} {i : Nat} {v : Int32} (hr : RC S F e h) : RC (u2 S 5 i v) F e (sI h 804 (150 + 12 * i) v) := by
  obtain ⟨hs, hrow, hm, hl, hle, hc, hn, hh, hg⟩ := hr
  refine ⟨STR_sI (by decide) hs, hrow, fun j hj => ?_, hl, hle, hc, hn, hh, hg⟩
  have q := hm j hj
  refine ⟨?_, q.2⟩
  by_cases c : j = i
  · subst c; simp [hI_sI, u2]
  · simp only [hI_sI, u2]
    rw [if_neg (by omega), if_neg (by omega)]
    exact q.1
theorem rc_role {S : SI} {F : SF} {e : Int32} {h : HP} {i : Nat} {v : Int32} (hr : RC S F e h) : RC (u2 S 11 i v) F e (sI h 807 (150 + 12 * i) v) := by
  obtain ⟨hs, hrow, hm, hl, hle, hc, hn, hh, hg⟩ := hr
  refine ⟨STR_sI (by decide) hs, hrow, fun j hj => ?_, hl, hle, hc, hn, hh, hg⟩
  have q := hm j hj
  refine ⟨q.1, ?_, q.2.2⟩
  by_cases c : j = i
  · subst c; simp [hI_sI, u2]
  · simp only [hI_sI, u2]
    rw [if_neg (by omega), if_neg (by omega)]
    exact q.2.1
theorem rc_term {S : SI} {F : SF} {e : Int32} {h : HP} {i : Nat} {v : Int32} (hr : RC S F e h) : RC (u2 S 9 i v) F e (sI h 808 (150 + 12 * i) v) := by
  obtain ⟨hs, hrow, hm, hl, hle, hc, hn, hh, hg⟩ := hr
  refine ⟨STR_sI (by decide) hs, hrow, fun j hj => ?_, hl, hle, hc, hn, hh, hg⟩
  have q := hm j hj
  refine ⟨q.1, q.2.1, ?_, q.2.2.2⟩
  by_cases c : j = i
  · subst c; simp [hI_sI, u2]
  · simp only [hI_sI, u2]
    rw [if_neg (by omega), if_neg (by omega)]
    exact q.2.2.1
theorem rc_vote {S : SI} {F : SF} {e : Int32} {h : HP} {i : Nat} {v : Int32} (hr : RC S F e h) : RC (u2 S 10 i v) F e (sI h 809 (150 + 12 * i) v) := by
  obtain ⟨hs, hrow, hm, hl, hle, hc, hn, hh, hg⟩ := hr
  refine ⟨STR_sI (by decide) hs, hrow, fun j hj => ?_, hl, hle, hc, hn, hh, hg⟩
  have q := hm j hj
  refine ⟨q.1, q.2.1, q.2.2.1, ?_, q.2.2.2.2⟩
  by_cases c : j = i
  · subst c; simp [hI_sI, u2]
  · simp only [hI_sI, u2]
    rw [if_neg (by omega), if_neg (by omega)]
    exact q.2.2.2.1
theorem rc_commit {S : SI} {F : SF} {e : Int32} {h : HP} {i : Nat} {v : Int32} (hr : RC S F e h) : RC (u2 S 13 i v) F e (sI h 810 (150 + 12 * i) v) := by
  obtain ⟨hs, hrow, hm, hl, hle, hc, hn, hh, hg⟩ := hr
  refine ⟨STR_sI (by decide) hs, hrow, fun j hj => ?_, hl, hle, hc, hn, hh, hg⟩
  have q := hm j hj
  refine ⟨q.1, q.2.1, q.2.2.1, q.2.2.2.1, ?_, q.2.2.2.2.2⟩
  by_cases c : j = i
  · subst c; simp [hI_sI, u2]
  · simp only [hI_sI, u2]
    rw [if_neg (by omega), if_neg (by omega)]
    exact q.2.2.2.2.1
theorem rc_voters {S : SI} {F : SF} {e : Int32} {h : HP} {i : Nat} {v : Int32} (hr : RC S F e h) : RC (u2 S 18 i v) F e (sI h 811 (150 + 12 * i) v) := by
  obtain ⟨hs, hrow, hm, hl, hle, hc, hn, hh, hg⟩ := hr
  refine ⟨STR_sI (by decide) hs, hrow, fun j hj => ?_, hl, hle, hc, hn, hh, hg⟩
  have q := hm j hj
  refine ⟨q.1, q.2.1, q.2.2.1, q.2.2.2.1, q.2.2.2.2.1, ?_, q.2.2.2.2.2.2⟩
  by_cases c : j = i
  · subst c; simp [hI_sI, u2]
  · simp only [hI_sI, u2]
    rw [if_neg (by omega), if_neg (by omega)]
    exact q.2.2.2.2.2.1
theorem rc_clock {S : SI} {F : SF} {e : Int32} {h : HP} {i : Nat} {v : UInt32} (hr : RC S F e h) : RC S (u2 F 7 i v) e (sF h 805 (150 + 12 * i) v) := by
  obtain ⟨hs, hrow, hm, hl, hle, hc, hn, hh, hg⟩ := hr
  refine ⟨hs, hrow, fun j hj => ?_, hl, hle, hc, hn, hh, hg⟩
  have q := hm j hj
  refine ⟨q.1, q.2.1, q.2.2.1, q.2.2.2.1, q.2.2.2.2.1, q.2.2.2.2.2.1, q.2.2.2.2.2.2.1, ?_, q.2.2.2.2.2.2.2.2⟩
  by_cases c : j = i
  · subst c; simp [hF_sF, u2]
  · simp only [hF_sF, u2]
    rw [if_neg (by omega), if_neg (by omega)]
    exact q.2.2.2.2.2.2.2.1
theorem rc_rate {S : SI} {F : SF} {e : Int32} {h : HP} {i : Nat} {v : UInt32} (hr : RC S F e h) : RC S (u2 F 8 i v) e (sF h 806 (150 + 12 * i) v) := by
  obtain ⟨hs, hrow, hm, hl, hle, hc, hn, hh, hg⟩ := hr
  refine ⟨hs, hrow, fun j hj => ?_, hl, hle, hc, hn, hh, hg⟩
  have q := hm j hj
  refine ⟨q.1, q.2.1, q.2.2.1, q.2.2.2.1, q.2.2.2.2.1, q.2.2.2.2.2.1, q.2.2.2.2.2.2.1, q.2.2.2.2.2.2.2.1, ?_, q.2.2.2.2.2.2.2.2.2⟩
  by_cases c : j = i
  · subst c; simp [hF_sF, u2]
  · simp only [hF_sF, u2]
    rw [if_neg (by omega), if_neg (by omega)]
    exact q.2.2.2.2.2.2.2.2.1
theorem rc_promise {S : SI} {F : SF} {e : Int32} {h : HP} {i : Nat} {v : Int32} {w : UInt32} (hr : RC S F e h) : RC (u2 S 25 i v) (u2 F 26 i w) e (sF (sI h 812 (150 + 12 * i) v) 813 (150 + 12 * i) w) := by
  obtain ⟨hs, hrow, hm, hl, hle, hc, hn, hh, hg⟩ := hr
  refine ⟨STR_sI (f := 812) (a := 150 + 12 * i) (v := v) (by decide) hs, hrow, fun j hj => ?_, hl, hle, hc, hn, hh, hg⟩
  have q := hm j hj
  refine ⟨q.1, q.2.1, q.2.2.1, q.2.2.2.1, q.2.2.2.2.1, q.2.2.2.2.2.1, ?_, q.2.2.2.2.2.2.2.1, q.2.2.2.2.2.2.2.2.1, ?_⟩
  · by_cases c : j = i
    · subst c; simp [hI_sF, hI_sI, u2]
    · simp only [hI_sF, hI_sI, u2]
      rw [if_neg (by omega), if_neg (by omega)]
      exact q.2.2.2.2.2.2.1
  · by_cases c : j = i
    · subst c; simp [hF_sF, u2]
    · simp only [hF_sF, hF_sI, u2]
      rw [if_neg (by omega), if_neg (by omega), if_neg (by omega)]
      exact q.2.2.2.2.2.2.2.2.2
