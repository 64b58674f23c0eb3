theorem STR_sI {h : HP} {f a : Nat} {v : Int32} (hf : f ≠ 800) (hs : STR h) : STR (sI h f a v) := by
  refine ⟨hs.1, hs.2.1, fun i hi => ?_, hs.2.2.2⟩
  have q := hs.2.2.1 i hi
  refine ⟨q.1, q.2.1, ?_, q.2.2.2⟩
  rw [hI_sI, if_neg (fun w => hf w.1.symm)]
  exact q.2.2.1
theorem rc_role {S : SI} {F : SF} {e : Int32} {h : HP} {i : Nat} {v : Int32} (hr : RC S F e h) : RC (u2 S 11 i v) F e (sI h 807 (150 + 12 * i) v) := by
  obtain ⟨hs, hrow, hm, hl, hle, hc, hn, hh, hg⟩ := hr
  refine ⟨STR_sI (by decide) hs, hrow, fun j hj => ?_, hl, hle, hc, hn, hh, hg⟩
  have q := hm j hj
  refine ⟨q.1, ?_, q.2.2⟩
  by_cases c : j = i
  · subst c; simp [hI_sI, u2]
  · simp only [hI_sI, u2]
    rw [if_neg (by omega), if_neg (by omega)]
    exact q.2.1
