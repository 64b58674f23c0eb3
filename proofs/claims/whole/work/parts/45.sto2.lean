theorem hAI_ne {h : HP} {a i b : Nat} {v : Int32} (hb : b ≠ a) : hAI (sAI h a i v) b = hAI h b := by
  funext j
  rw [hAI_sAI, if_neg (fun w => hb w.1)]
theorem hAF_ne {h : HP} {a i b : Nat} {v : UInt32} (hb : b ≠ a) : hAF (sAF h a i v) b = hAF h b := by
  funext j
  rw [hAF_sAF, if_neg (fun w => hb w.1)]
theorem gMod_sAI {X : MX} {h : HP} {a i : Nat} {v : Int32} (ha : a < 210) (h1 : a ≠ 1) (hm : gMod X h) : gMod X (sAI h a i v) := by
  obtain ⟨m1, m2, m3, m4, m5, m6, m7⟩ := hm
  refine ⟨m1, fun K => ?_, m3, m4, m5, (hAI_ne (by omega)).trans m6, m7⟩
  replace m2 := m2 K
  unfold RMo at m2 ⊢
  simp (disch := omega) only [hAI_ne]
  exact m2
theorem gMod_sAF {X : MX} {h : HP} {a i : Nat} {v : UInt32} (ha : a < 210) (hm : gMod X h) : gMod X (sAF h a i v) := by
  obtain ⟨m1, m2, m3, m4, m5, m6, m7⟩ := hm
  refine ⟨m1, fun K => ?_, m3, m4, m5, m6, m7⟩
  replace m2 := m2 K
  unfold RMo at m2 ⊢
  simp (disch := omega) only [hAF_ne]
  exact m2
theorem rc_supposed {S : SI} {F : SF} {e : EX} {X : MX} {h : HP} {i j : Nat} {v : Int32} (hi : i < 5) (hj : j < 5) (hr : RC S F e X h) : RC (u2 S 19 (5 * i + j) v) F e X (sAI h (154 + 12 * i) j v) := by
  obtain ⟨hs, hrow, hm, hl, hle, hc, hn, hh, hg⟩ := hr
  refine ⟨hs, hrow, hm, hl, fun i1 hi1 => ?_, hc, ⟨hn.1, hn.2.1, hn.2.2.1, fun k hk => ?_, hn.2.2.2.2⟩, hh, hg.1, gMod_sAI (by omega) (by omega) hg.2⟩
  · have q := hle i1 hi1
    refine ⟨q.1, q.2.1, q.2.2.1, fun j1 hj1 => ⟨?_, ?_, (q.2.2.2 j1 hj1).2.2⟩⟩
    · by_cases c : i1 = i ∧ j1 = j
      · obtain ⟨rfl, rfl⟩ := c; simp [hAI_sAI, u2]
      · simp only [hAI_sAI, u2]
        rw [if_neg (by omega), if_neg (by omega)]
        exact (q.2.2.2 j1 hj1).1
    · simp only [hAI_sAI, u2]
      rw [if_neg (by omega), if_neg (by omega)]
      exact (q.2.2.2 j1 hj1).2.1
  · simp only [hAI_sAI, u2]
    rw [if_neg (by omega), if_neg (by omega)]
    exact hn.2.2.2.1 k hk
theorem rc_same {S : SI} {F : SF} {e : EX} {X : MX} {h : HP} {i j : Nat} {v : Int32} (hi : i < 5) (hj : j < 5) (hr : RC S F e X h) : RC (u2 S 20 (5 * i + j) v) F e X (sAI h (155 + 12 * i) j v) := by
  obtain ⟨hs, hrow, hm, hl, hle, hc, hn, hh, hg⟩ := hr
  refine ⟨hs, hrow, hm, hl, fun i1 hi1 => ?_, hc, ⟨hn.1, hn.2.1, hn.2.2.1, fun k hk => ?_, hn.2.2.2.2⟩, hh, hg.1, gMod_sAI (by omega) (by omega) hg.2⟩
  · have q := hle i1 hi1
    refine ⟨q.1, q.2.1, q.2.2.1, fun j1 hj1 => ⟨?_, ?_, (q.2.2.2 j1 hj1).2.2⟩⟩
    · simp only [hAI_sAI, u2]
      rw [if_neg (by omega), if_neg (by omega)]
      exact (q.2.2.2 j1 hj1).1
    · by_cases c : i1 = i ∧ j1 = j
      · obtain ⟨rfl, rfl⟩ := c; simp [hAI_sAI, u2]
      · simp only [hAI_sAI, u2]
        rw [if_neg (by omega), if_neg (by omega)]
        exact (q.2.2.2 j1 hj1).2.1
  · simp only [hAI_sAI, u2]
    rw [if_neg (by omega), if_neg (by omega)]
    exact hn.2.2.2.1 k hk
theorem rc_cut {S : SI} {F : SF} {e : EX} {X : MX} {h : HP} {k : Nat} {v : Int32} (hr : RC S F e X h) : RC (u2 S 6 k v) F e X (sAI h 6 k v) := by
  obtain ⟨hs, hrow, hm, hl, hle, hc, hn, hh, hg⟩ := hr
  refine ⟨hs, hrow, hm, hl, fun i1 hi1 => ?_, hc, ⟨hn.1, hn.2.1, hn.2.2.1, fun k1 hk => ?_, hn.2.2.2.2⟩, hh, hg.1, gMod_sAI (by omega) (by omega) hg.2⟩
  · have q := hle i1 hi1
    refine ⟨q.1, q.2.1, q.2.2.1, fun j1 hj1 => ⟨?_, ?_, (q.2.2.2 j1 hj1).2.2⟩⟩
    · simp only [hAI_sAI, u2]
      rw [if_neg (by omega), if_neg (by omega)]
      exact (q.2.2.2 j1 hj1).1
    · simp only [hAI_sAI, u2]
      rw [if_neg (by omega), if_neg (by omega)]
      exact (q.2.2.2 j1 hj1).2.1
  · by_cases c : k1 = k
    · subst c; simp [hAI_sAI, u2]
    · simp only [hAI_sAI, u2]
      rw [if_neg (by omega), if_neg (by omega)]
      exact hn.2.2.2.1 k1 hk
