/-! ===== what a leader of the class knows ===== -/
theorem lt5 {i : Nat} (hi : i < 5) : i = 0 ∨ i = 1 ∨ i = 2 ∨ i = 3 ∨ i = 4 := by omega
/-- five numbers that are 0 or 1 -/
def Z5 (f : Nat → Int32) : Prop := ∀ j, j < 5 → f j = 0 ∨ f j = 1
theorem bits5_has {f : Nat → Int32} (hz : Z5 f) {i : Nat} (hi : i < 5) : (((bits5 f >>> (Int32.ofNat i &&& 31)) &&& 1) = 1) = (f i = 1) := by
  have z0 := hz 0 (by decide)
  have z1 := hz 1 (by decide)
  have z2 := hz 2 (by decide)
  have z3 := hz 3 (by decide)
  have z4 := hz 4 (by decide)
  unfold bits5
  rcases lt5 hi with rfl | rfl | rfl | rfl | rfl <;> rcases z0 with z0 | z0 <;> rcases z1 with z1 | z1 <;> rcases z2 with z2 | z2 <;> rcases z3 with z3 | z3 <;> rcases z4 with z4 | z4 <;> rw [z0, z1, z2, z3, z4] <;> decide
theorem bits5_or {f : Nat → Int32} (hz : Z5 f) {i : Nat} (hi : i < 5) : (bits5 f ||| bitI (Int32.ofNat i)) = bits5 (fun j => if j = i then 1 else f j) := by
  have z0 := hz 0 (by decide)
  have z1 := hz 1 (by decide)
  have z2 := hz 2 (by decide)
  have z3 := hz 3 (by decide)
  have z4 := hz 4 (by decide)
  unfold bits5 bitI
  rcases lt5 hi with rfl | rfl | rfl | rfl | rfl <;> rcases z0 with z0 | z0 <;> rcases z1 with z1 | z1 <;> rcases z2 with z2 | z2 <;> rcases z3 with z3 | z3 <;> rcases z4 with z4 | z4 <;> simp only [z0, z1, z2, z3, z4] <;> decide
theorem bits5_congr {f g : Nat → Int32} (hfg : ∀ j, j < 5 → f j = g j) : bits5 f = bits5 g := by
  unfold bits5
  rw [hfg 0 (by decide), hfg 1 (by decide), hfg 2 (by decide), hfg 3 (by decide), hfg 4 (by decide)]
theorem u2_eq {α : Type} {m : Nat → Nat → α} {f a : Nat} {v : α} : u2 m f a v f a = v := if_pos ⟨rfl, rfl⟩
theorem u2_ne {α : Type} {m : Nat → Nat → α} {f a f1 a1 : Nat} {v : α} (h : f1 ≠ f ∨ a1 ≠ a) : u2 m f a v f1 a1 = m f1 a1 := if_neg (fun w => h.elim (fun q => q w.1) (fun q => q w.2))
section LED
variable {S : SI} {F : SF} {e : EX} {X : MX} {h : HP} {d : Nat} {Q : Out → HP → Prop} {i : Nat}
/-- the clock of an answer, as the class has it -/
def ckF (S : SI) (F : SF) (i j : Nat) : UInt32 := if S 21 (5 * i + j) = 1 then F 22 (5 * i + j) else FP.fconst0
theorem rd_ck (hr : RC S F e X h) (hi : i < 5) {j : Nat} (hj : j < 5) : hAF h (156 + 12 * i) j = ckF S F i j := ((rcD hr i hi).2.2.2 j hj).2.2
theorem rd_sup (hr : RC S F e X h) (hi : i < 5) {j : Nat} (hj : j < 5) : hAI h (154 + 12 * i) j = S 19 (5 * i + j) := ((rcD hr i hi).2.2.2 j hj).1
theorem rd_same (hr : RC S F e X h) (hi : i < 5) {j : Nat} (hj : j < 5) : hAI h (155 + 12 * i) j = S 20 (5 * i + j) := ((rcD hr i hi).2.2.2 j hj).2.1
theorem rc_ck (hr : RC S F e X h) (hi : i < 5) {j : Nat} (hj : j < 5) {v : UInt32} : RC S (u2 F 22 (5 * i + j) v) e X (sAF h (156 + 12 * i) j (if S 21 (5 * i + j) = 1 then v else FP.fconst0)) := by
  obtain ⟨hs, hrow, hm, hl, hle, hc, hn, hh, hg⟩ := hr
  refine ⟨hs, hrow, hm, hl, fun i1 hi1 => ?_, hc, hn, hh, hg.1, gMod_sAF (by omega) hg.2⟩
  have q := hle i1 hi1
  refine ⟨q.1, q.2.1, q.2.2.1, fun j1 hj1 => ⟨(q.2.2.2 j1 hj1).1, (q.2.2.2 j1 hj1).2.1, ?_⟩⟩
  by_cases c : i1 = i ∧ j1 = j
  · obtain ⟨rfl, rfl⟩ := c; simp [hAF_sAF, u2]
  · rw [hAF_sAF, if_neg (by omega), u2_ne (by omega)]
    exact (q.2.2.2 j1 hj1).2.2
/-- one more has answered -/
theorem rc_answ (hr : RC S F e X h) (hi : i < 5) {j : Nat} (hj : j < 5) (hz : Z5 (fun o => S 21 (5 * i + o))) : RC (u2 S 21 (5 * i + j) 1) (u2 F 22 (5 * i + j) (ckF S F i j)) e X (sI h 502 (153 + 12 * i) (hI h 502 (153 + 12 * i) ||| bitI (Int32.ofNat j))) := by
  have ha := rd_answ hr hi
  have hck := rd_ck hr hi hj
  obtain ⟨hs, hrow, hm, hl, hle, hc, hn, hh, hg⟩ := hr
  refine ⟨STR_sI (by decide) hs, hrow, hm, hl, fun i1 hi1 => ?_, hc, hn, hh, hg⟩
  have q := hle i1 hi1
  refine ⟨q.1, q.2.1, ?_, fun j1 hj1 => ⟨(q.2.2.2 j1 hj1).1, (q.2.2.2 j1 hj1).2.1, ?_⟩⟩
  · by_cases c : i1 = i
    · subst c
      rw [ha, bits5_or hz hj]
      show (if 502 = 502 ∧ 153 + 12 * i1 = 153 + 12 * i1 then bits5 _ else hI h 502 (153 + 12 * i1)) = _
      rw [if_pos ⟨rfl, rfl⟩]
      refine bits5_congr fun o ho => ?_
      by_cases c2 : o = j
      · subst c2; rw [if_pos rfl, u2_eq]
      · rw [if_neg c2, u2_ne (by omega)]
    · show (if 502 = 502 ∧ 153 + 12 * i1 = 153 + 12 * i then _ else hI h 502 (153 + 12 * i1)) = _
      rw [if_neg (by omega), q.2.2.1]
      refine bits5_congr fun o ho => ?_
      rw [u2_ne (by omega)]
  · show hAF h (156 + 12 * i1) j1 = _
    by_cases c : i1 = i ∧ j1 = j
    · obtain ⟨rfl, rfl⟩ := c
      rw [u2_eq, if_pos rfl, u2_eq, hck]
    · rw [u2_ne (by omega), u2_ne (by omega)]
      exact (q.2.2.2 j1 hj1).2.2
/-- the latest clocks of the first j others taken away -/
def ck0F (F : SF) (i j : Nat) : SF := fun s k => if s = 22 ∧ (5 * i ≤ k ∧ k < 5 * i + j) then FP.fconst0 else F s k
def stJ (S : SI) (i j : Nat) (v : Int32) : SI := fun s k => if s = 19 ∧ (5 * i ≤ k ∧ k < 5 * i + j) then v else if s = 20 ∧ (5 * i ≤ k ∧ k < 5 * i + j) then 0 else S s k
theorem rc_start (hr : RC (stJ S i 5 (S 12 i)) (ck0F F i 5) e X h) (hi : i < 5) (h2 : S 11 i = 2) : RC (startS S i) F e X (sI (sI h 502 (153 + 12 * i) 0) 504 (153 + 12 * i) 0) := by
  obtain ⟨hs, hrow, hm, hl, hle, hc, hn, hh, hg⟩ := hr
  refine ⟨STR_sI (f := 504) (by decide) (STR_sI (by decide) hs), hrow, fun i1 hi1 => ?_, hl, fun i1 hi1 => ?_, hc, hn, hh, hg⟩
  · have q := hm i1 hi1
    refine ⟨q.1, ?_, q.2.2⟩
    show hI h 807 (150 + 12 * i1) = (if 11 = 11 ∧ i1 = i then 2 else S 11 i1)
    by_cases c : i1 = i
    · subst c; rw [if_pos ⟨rfl, rfl⟩, ← h2]; exact q.2.1
    · rw [if_neg (fun w => c w.2)]; exact q.2.1
  · have q := hle i1 hi1
    by_cases c : i1 = i
    · subst c
      refine ⟨?_, ?_, ?_, fun j1 hj1 => ⟨?_, ?_, ?_⟩⟩
      · show (if 504 = 504 ∧ 153 + 12 * i1 = 153 + 12 * i1 then 0 else _) = (if 23 = 11 ∧ i1 = i1 then 2 else if 23 = 23 ∧ i1 = i1 then (0 : Int32) else _)
        rw [if_pos ⟨rfl, rfl⟩, if_neg (by omega), if_pos ⟨rfl, rfl⟩]
      · intro w
        have : (if 23 = 11 ∧ i1 = i1 then 2 else if 23 = 23 ∧ i1 = i1 then (0 : Int32) else S 23 i1) = 1 := w
        rw [if_neg (by omega), if_pos ⟨rfl, rfl⟩] at this
        exact absurd this (by decide)
      · show (if 502 = 502 ∧ 153 + 12 * i1 = 153 + 12 * i1 then (0 : Int32) else _) = _
        rw [if_pos ⟨rfl, rfl⟩]
        have : ∀ j, j < 5 → startS S i1 21 (5 * i1 + j) = (fun _ => (0 : Int32)) j := fun j hj => by
          unfold startS
          rw [if_neg (by omega), if_neg (by omega), if_neg (by omega), if_neg (by omega), if_pos ⟨rfl, by omega, by omega⟩]
        rw [bits5_congr this]
        decide
      · show hAI h (154 + 12 * i1) j1 = _
        rw [(q.2.2.2 j1 hj1).1]
        unfold stJ startS
        rw [if_pos ⟨rfl, by omega, by omega⟩, if_neg (by omega), if_neg (by omega), if_pos ⟨rfl, by omega, by omega⟩]
      · show hAI h (155 + 12 * i1) j1 = _
        rw [(q.2.2.2 j1 hj1).2.1]
        unfold stJ startS
        rw [if_neg (by omega), if_pos ⟨rfl, by omega, by omega⟩, if_neg (by omega), if_neg (by omega), if_neg (by omega), if_pos ⟨rfl, by omega, by omega⟩]
      · show hAF h (156 + 12 * i1) j1 = _
        have e0 : startS S i1 21 (5 * i1 + j1) = 0 := by
          unfold startS
          rw [if_neg (by omega), if_neg (by omega), if_neg (by omega), if_neg (by omega), if_pos ⟨rfl, by omega, by omega⟩]
        rw [(q.2.2.2 j1 hj1).2.2, e0]
        have : ck0F F i1 5 22 (5 * i1 + j1) = FP.fconst0 := by
          unfold ck0F
          rw [if_pos ⟨rfl, by omega, by omega⟩]
        rw [this, ite_self, if_neg (by decide)]
    · have e23 : startS S i 23 i1 = S 23 i1 := by
        unfold startS
        rw [if_neg (by omega), if_neg (by omega), if_neg (by omega), if_neg (by omega), if_neg (by omega)]
      have e21 : ∀ j, j < 5 → startS S i 21 (5 * i1 + j) = S 21 (5 * i1 + j) := fun j hj => by
        unfold startS
        rw [if_neg (by omega), if_neg (by omega), if_neg (by omega), if_neg (by omega), if_neg (by omega)]
      refine ⟨?_, ?_, ?_, fun j1 hj1 => ⟨?_, ?_, ?_⟩⟩
      · show (if 504 = 504 ∧ 153 + 12 * i1 = 153 + 12 * i then 0 else hI h 504 (153 + 12 * i1)) = _
        rw [if_neg (by omega), e23]; exact q.1
      · rw [e23]; exact q.2.1
      · show (if 502 = 502 ∧ 153 + 12 * i1 = 153 + 12 * i then (0 : Int32) else hI h 502 (153 + 12 * i1)) = _
        rw [if_neg (by omega), bits5_congr e21]; exact q.2.2.1
      · show hAI h (154 + 12 * i1) j1 = _
        rw [(q.2.2.2 j1 hj1).1]
        unfold stJ startS
        rw [if_neg (by omega), if_neg (by omega), if_neg (by omega), if_neg (by omega), if_neg (by omega), if_neg (by omega), if_neg (by omega)]
      · show hAI h (155 + 12 * i1) j1 = _
        rw [(q.2.2.2 j1 hj1).2.1]
        unfold stJ startS
        rw [if_neg (by omega), if_neg (by omega), if_neg (by omega), if_neg (by omega), if_neg (by omega), if_neg (by omega), if_neg (by omega)]
      · show hAF h (156 + 12 * i1) j1 = _
        rw [(q.2.2.2 j1 hj1).2.2, e21 j1 hj1]
        have : ck0F F i 5 22 (5 * i1 + j1) = F 22 (5 * i1 + j1) := by
          unfold ck0F
          rw [if_neg (by omega)]
        rw [this]
        rfl
theorem stJ_succ (j : Nat) (v : Int32) : u2 (u2 (stJ S i j v) 19 (5 * i + j) v) 20 (5 * i + j) 0 = stJ S i (j + 1) v := by
  funext s k
  show (if s = 20 ∧ k = 5 * i + j then (0 : Int32) else if s = 19 ∧ k = 5 * i + j then v else if s = 19 ∧ (5 * i ≤ k ∧ k < 5 * i + j) then v else if s = 20 ∧ (5 * i ≤ k ∧ k < 5 * i + j) then 0 else S s k) = if s = 19 ∧ (5 * i ≤ k ∧ k < 5 * i + (j + 1)) then v else if s = 20 ∧ (5 * i ≤ k ∧ k < 5 * i + (j + 1)) then 0 else S s k
  by_cases c : 5 * i ≤ k ∧ k < 5 * i + (j + 1)
  · by_cases c19 : s = 19
    · rw [if_neg (by omega)]
      by_cases c3 : k = 5 * i + j
      · rw [if_pos ⟨c19, c3⟩, if_pos ⟨c19, c⟩]
      · rw [if_neg (by omega), if_pos (by omega), if_pos ⟨c19, c⟩]
    · by_cases c20 : s = 20
      · by_cases c3 : k = 5 * i + j
        · rw [if_pos ⟨c20, c3⟩, if_neg (by omega), if_pos ⟨c20, c⟩]
        · rw [if_neg (by omega), if_neg (by omega), if_neg (by omega), if_pos (by omega), if_neg (by omega), if_pos ⟨c20, c⟩]
      · rw [if_neg (by omega), if_neg (by omega), if_neg (by omega), if_neg (by omega), if_neg (by omega), if_neg (by omega)]
  · rw [if_neg (by omega), if_neg (by omega), if_neg (by omega), if_neg (by omega), if_neg (by omega), if_neg (by omega)]
theorem ck0_succ (j : Nat) : u2 (ck0F F i j) 22 (5 * i + j) FP.fconst0 = ck0F F i (j + 1) := by
  funext s k
  show (if s = 22 ∧ k = 5 * i + j then FP.fconst0 else if s = 22 ∧ (5 * i ≤ k ∧ k < 5 * i + j) then FP.fconst0 else F s k) = if s = 22 ∧ (5 * i ≤ k ∧ k < 5 * i + (j + 1)) then FP.fconst0 else F s k
  by_cases c : s = 22 ∧ (5 * i ≤ k ∧ k < 5 * i + (j + 1))
  · rw [if_pos c]
    by_cases c3 : k = 5 * i + j
    · rw [if_pos ⟨c.1, c3⟩]
    · rw [if_neg (by omega), if_pos (by omega)]
  · rw [if_neg (by omega), if_neg (by omega), if_neg (by omega)]
theorem w_start5 (hi : i < 5) (h2 : S 11 i = 2) (k : ∀ h', RC (startS S i) F e X h' → Q (.inl none) h') :
    ∀ (m j : Nat) (h : HP), j + m = 5 → RC (stJ S i j (S 12 i)) (ck0F F i j) e X h → WP d mX5_start 2 [some (.ref (153 + 12 * i)), some (.int (S 12 i)), some (.int (Int32.ofNat j))] [] h Q := by
  intro m
  induction m with
  | zero =>
    intro j h hj hr
    obtain rfl : j = 5 := by omega
    exact bX5_start_2 ⟨fun _ => ⟨st_K_153 (rcS hr) hi, k _ (rc_start hr hi h2)⟩, fun c => absurd (by decide) c⟩
  | succ m ih =>
    intro j h hj hr
    have hs := rcS hr
    have hj5 : j < 5 := by omega
    refine bX5_start_2 ?_
    rw [o_nle _ _ (by decide) (by omega), o_c _ (by omega), st_R_500_153 hs hi, st_R_501_153 hs hi, st_R_503_153 hs hi, o_addn]
    refine ⟨fun c => by omega, fun _ => ⟨st_K_153 hs hi, st_K_154 hs hi, inA_o (st_L_154 hs hi) (by omega) (by decide), st_K_155 hs hi, inA_o (st_L_155 hs hi) (by omega) (by decide), st_K_156 hs hi, inA_o (st_L_156 hs hi) (by omega) (by decide), ih (j + 1) _ (by omega) ?_⟩⟩
    have r := rc_ck (v := FP.fconst0) (rc_same (v := 0) hi hj5 (rc_supposed (v := S 12 i) hi hj5 hr)) hi hj5
    rw [stJ_succ, ck0_succ, ite_self] at r
    exact r
theorem w_start0 (hr : RC S F e X h) (hi : i < 5) (h2 : S 11 i = 2) {u : Option Value} (k : ∀ h', RC (startS S i) F e X h' → Q (.inl none) h') : WP d mX5_start 0 [some (.ref (153 + 12 * i)), some (.int (S 12 i)), u] [] h Q := by
  refine bX5_start_0 (w_start5 hi h2 k 5 0 h rfl ?_)
  have e1 : stJ S i 0 (S 12 i) = S := by
    funext s k
    unfold stJ
    rw [if_neg (by omega), if_neg (by omega)]
  have e2 : ck0F F i 0 = F := by
    funext s k
    unfold ck0F
    rw [if_neg (by omega)]
  rw [e1, e2]
  exact hr
theorem w_learnSame (hr : RC S F e X h) (hi : i < 5) {j : Nat} (hj : j < 5) {x : Int32} (k : ∀ h', RC (if S 20 (5 * i + j) < x then u2 (u2 S 20 (5 * i + j) x) 19 (5 * i + j) x else S) F e X h' → hR h' = hR h → hAR h' = hAR h → Q (.inl none) h') : WP d mX5_learnSame 0 [some (.ref (153 + 12 * i)), some (.int (Int32.ofNat j)), some (.int x)] [] h Q := by
  have hs := rcS hr
  refine bX5_learnSame_0 ?_
  rw [st_R_500_153 hs hi, st_R_501_153 hs hi, o_c _ (by omega), rd_same hr hi hj]
  refine ⟨st_K_153 hs hi, st_K_155 hs hi, inA_o (st_L_155 hs hi) (by omega) (by decide), fun c => ?_, fun c => ⟨st_K_154 hs hi, inA_o (st_L_154 hs hi) (by omega) (by decide), ?_⟩⟩
  · rw [← i_nlt] at c
    rw [if_neg c] at k
    exact k h hr rfl rfl
  · rw [← i_nlt, Classical.not_not] at c
    rw [if_pos c] at k
    exact k _ (rc_supposed hi hj (rc_same hi hj hr)) rfl rfl
/-- the clock of an answer as the class takes it -/
def tkF (S : SI) (F : SF) (i j : Nat) (c : UInt32) : UInt32 := if Op.cmpValue (FP.fcmp c (ckF S F i j)) .l ≤ 0 then ckF S F i j else c
theorem w_learnClock (hr : RC S F e X h) (hi : i < 5) {j : Nat} (hj : j < 5) (hz : Z5 (fun o => S 21 (5 * i + o))) {x : UInt32} (k : ∀ h', RC (u2 S 21 (5 * i + j) 1) (u2 F 22 (5 * i + j) (tkF S F i j x)) e X h' → hR h' = hR h → hAR h' = hAR h → Q (.inl none) h') : WP d mX5_learnClock 0 [some (.ref (153 + 12 * i)), some (.int (Int32.ofNat j)), some (.float x)] [] h Q := by
  have hs := rcS hr
  refine bX5_learnClock_0 ?_
  rw [st_R_503_153 hs hi, o_c _ (by omega), rd_ck hr hi hj]
  refine ⟨st_K_153 hs hi, st_K_156 hs hi, inA_o (st_L_156 hs hi) (by omega) (by decide), fun c => ?_, fun c => ?_⟩
  · unfold tkF at k
    rw [if_pos c] at k
    exact k _ (rc_answ hr hi hj hz) rfl rfl
  · unfold tkF at k
    rw [if_neg c] at k
    have r := rc_answ hr hi hj hz
    refine k _ ?_ rfl rfl
    obtain ⟨hs, hrow, hm, hl, hle, hc, hn, hh, hg⟩ := r
    refine ⟨hs, hrow, hm, hl, fun i1 hi1 => ?_, hc, hn, hh, hg.1, gMod_sAF (h := sI h 502 (153 + 12 * i) (hI h 502 (153 + 12 * i) ||| bitI (Int32.ofNat j))) (by omega) hg.2⟩
    have q := hle i1 hi1
    refine ⟨q.1, q.2.1, q.2.2.1, fun j1 hj1 => ⟨(q.2.2.2 j1 hj1).1, (q.2.2.2 j1 hj1).2.1, ?_⟩⟩
    by_cases c : i1 = i ∧ j1 = j
    · obtain ⟨rfl, rfl⟩ := c
      show (if 156 + 12 * i1 = 156 + 12 * i1 ∧ j1 = j1 then x else _) = _
      rw [if_pos ⟨rfl, rfl⟩, u2_eq, if_pos rfl, u2_eq]
    · show (if 156 + 12 * i1 = 156 + 12 * i ∧ j1 = j then x else hAF h (156 + 12 * i1) j1) = _
      rw [if_neg (by omega), u2_ne (by omega), u2_ne (by omega)]
      have := (q.2.2.2 j1 hj1).2.2
      rw [u2_ne (by omega), u2_ne (by omega)] at this
      exact this
/-- how many places know x entries -/
def knowC (S : SI) (i : Nat) (x : Int32) : Nat → Nat
  | 0 => 0
  | j + 1 => knowC S i x j + (if S 20 (5 * i + j) < x then 0 else 1)
theorem knowC_le (S : SI) (i : Nat) (x : Int32) (j : Nat) : knowC S i x j ≤ j := by
  induction j with
  | zero => exact Nat.le_refl _
  | succ j ih => unfold knowC; split <;> omega
theorem w_knowing (hr : RC S F e X h) (hi : i < 5) {x : Int32} (k : Q (.inl (some (.int (Int32.ofNat (knowC S i x 5))))) h) :
    ∀ (m j : Nat), j + m = 5 → WP d mX5_knowing 4 [some (.ref (153 + 12 * i)), some (.int x), some (.int (Int32.ofNat (knowC S i x j))), some (.int (Int32.ofNat j))] [] h Q := by
  intro m
  induction m with
  | zero =>
    intro j hj
    obtain rfl : j = 5 := by omega
    exact bX5_knowing_4 ⟨fun _ => k, fun c => absurd (by decide) c⟩
  | succ m ih =>
    intro j hj
    have hs := rcS hr
    have hb := knowC_le S i x j
    refine bX5_knowing_4 ?_
    rw [o_nle _ _ (by decide) (by omega), o_c _ (by omega), st_R_501_153 hs hi, rd_same hr hi (by omega), o_addn, o_addn]
    refine ⟨fun c => by omega, fun _ => ⟨st_K_153 hs hi, st_K_155 hs hi, inA_o (st_L_155 hs hi) (by omega) (by decide), fun c => ?_, fun c => ?_⟩⟩
    · have := ih (j + 1) (by omega)
      unfold knowC at this
      rw [if_pos c] at this
      exact this
    · have := ih (j + 1) (by omega)
      unfold knowC at this
      rw [if_neg c] at this
      exact this
theorem w_hasAnswered (hr : RC S F e X h) (hi : i < 5) {j : Nat} (hj : j < 5) (hz : Z5 (fun o => S 21 (5 * i + o))) (k : Q (.inl (some (.int (b2i (decide (S 21 (5 * i + j) = 1)))))) h) : WP d mX5_hasAnswered 0 [some (.ref (153 + 12 * i)), some (.int (Int32.ofNat j))] [] h Q := by
  refine bX5_hasAnswered_0 ⟨st_K_153 (rcS hr) hi, ?_⟩
  rw [rd_answ hr hi, bits5_has hz hj]
  refine ⟨fun c => ?_, fun c => ?_⟩
  · simpa [b2i, c] using k
  · simpa [b2i, Classical.not_not.mp c] using k
/-- how many answered with that clock or a later one -/
def sinceC (S : SI) (F : SF) (i : Nat) (x : UInt32) : Nat → Nat
  | 0 => 0
  | j + 1 => sinceC S F i x j + (if S 21 (5 * i + j) = 1 ∧ ¬ Op.cmpValue (FP.fcmp (ckF S F i j) x) .l < 0 then 1 else 0)
theorem sinceC_le (S : SI) (F : SF) (i : Nat) (x : UInt32) (j : Nat) : sinceC S F i x j ≤ j := by
  induction j with
  | zero => exact Nat.le_refl _
  | succ j ih => unfold sinceC; split <;> omega
theorem b2i_z {b : Bool} : (b2i b = 0) = (b = false) := by
  cases b <;> simp [b2i]
theorem w_answeredSince (hr : RC S F e X h) (hi : i < 5) (hz : Z5 (fun o => S 21 (5 * i + o))) {x : UInt32} (k : Q (.inl (some (.int (Int32.ofNat (sinceC S F i x 5))))) h) :
    ∀ (m j : Nat), j + m = 5 → WP (d + 1) mX5_answeredSince 4 [some (.ref (153 + 12 * i)), some (.float x), some (.int (Int32.ofNat (sinceC S F i x j))), some (.int (Int32.ofNat j))] [] h Q := by
  intro m
  induction m with
  | zero =>
    intro j hj
    obtain rfl : j = 5 := by omega
    exact bX5_answeredSince_4 ⟨fun _ => k, fun c => absurd (by decide) c⟩
  | succ m ih =>
    intro j hj
    have hs := rcS hr
    have hb := sinceC_le S F i x j
    refine bX5_answeredSince_4 ?_
    rw [o_nle _ _ (by decide) (by omega)]
    refine ⟨fun c => by omega, fun _ => ⟨by omega, st_K_153 hs hi, w_hasAnswered hr hi (by omega) hz ?_⟩⟩
    rw [KK_ret]
    refine bX5_answeredSince_14 ?_
    rw [b2i_z, decide_eq_false_iff_not, o_c _ (by omega), st_R_503_153 hs hi, rd_ck hr hi (by omega), o_addn, o_addn]
    have q := ih (j + 1) (by omega)
    unfold sinceC at q
    refine ⟨fun c => ?_, fun c => ⟨st_K_153 hs hi, st_K_156 hs hi, inA_o (st_L_156 hs hi) (by omega) (by decide), fun c2 => ?_, fun c2 => ?_⟩⟩
    · rw [if_neg (fun w => c w.1)] at q; exact q
    · rw [if_neg (fun w => w.2 c2)] at q; exact q
    · rw [if_pos ⟨Classical.not_not.mp c, c2⟩] at q; exact q
/-- the greatest clock such that so many answered with that or a later one, among the first j -/
def clockC (S : SI) (F : SF) (i : Nat) (n : Int32) : Nat → UInt32
  | 0 => FP.fconst0
  | j + 1 => if S 21 (5 * i + j) = 1 ∧ ¬ Op.cmpValue (FP.fcmp (ckF S F i j) (clockC S F i n j)) .l ≤ 0 ∧ ¬ Int32.ofNat (sinceC S F i (ckF S F i j) 5) < n then ckF S F i j else clockC S F i n j
theorem w_clockOf (hr : RC S F e X h) (hi : i < 5) (hz : Z5 (fun o => S 21 (5 * i + o))) {n : Int32} (k : Q (.inl (some (.float (clockC S F i n 5)))) h) :
    ∀ (m j : Nat), j + m = 5 → WP (d + 2) mX5_clockOf 4 [some (.ref (153 + 12 * i)), some (.int n), some (.float (clockC S F i n j)), some (.int (Int32.ofNat j))] [] h Q := by
  intro m
  induction m with
  | zero =>
    intro j hj
    obtain rfl : j = 5 := by omega
    exact bX5_clockOf_4 ⟨fun _ => k, fun c => absurd (by decide) c⟩
  | succ m ih =>
    intro j hj
    have hs := rcS hr
    have hj5 : j < 5 := by omega
    refine bX5_clockOf_4 ?_
    rw [o_nle _ _ (by decide) (by omega)]
    refine ⟨fun c => by omega, fun _ => ⟨by omega, st_K_153 hs hi, w_hasAnswered hr hi (by omega) hz ?_⟩⟩
    rw [KK_ret]
    refine bX5_clockOf_14 ?_
    rw [b2i_z, decide_eq_false_iff_not, o_c _ (by omega), st_R_503_153 hs hi, rd_ck hr hi (by omega), o_addn]
    have q := ih (j + 1) (by omega)
    unfold clockC at q
    refine ⟨fun c => ?_, fun c => ⟨st_K_153 hs hi, st_K_156 hs hi, inA_o (st_L_156 hs hi) (by omega) (by decide), fun c2 => ?_, fun c2 => ⟨by omega, ?_⟩⟩⟩
    · rw [if_neg (fun w => c w.1)] at q; exact q
    · rw [if_neg (fun w => w.2.1 c2)] at q; exact q
    · refine bX5_answeredSince_0 (w_answeredSince hr hi hz ?_ 5 0 rfl)
      rw [KK_ret]
      refine bX5_clockOf_38 ?_
      rw [o_c _ (by omega), st_R_503_153 hs hi, rd_ck hr hi (by omega), o_addn]
      refine ⟨fun c3 => ?_, fun c3 => ⟨st_K_153 hs hi, st_K_156 hs hi, inA_o (st_L_156 hs hi) (by omega) (by decide), ?_⟩⟩
      · rw [if_neg (fun w => w.2.2 c3)] at q; exact q
      · rw [if_pos ⟨Classical.not_not.mp c, c2, c3⟩] at q; exact q
theorem w_most (hr : RC S F e X h) (k : Q (.inl (some (.int (mostI S)))) h) : WP d mX10_most 0 [some (.ref 4)] [] h Q := by
  refine bX10_most_0 ⟨st_K_4 (rcS hr), ?_⟩
  rw [rd_n hr]
  exact k
def bcI (x : Int32) : Int32 :=
  let a := ((x - ((((x).toUInt32 >>> (((1 : Int32)).toUInt32 &&& Int32.toUInt32 31)).toInt32) &&& (1431655765 : Int32))) &&& (858993459 : Int32)) + (((((x - ((((x).toUInt32 >>> (((1 : Int32)).toUInt32 &&& Int32.toUInt32 31)).toInt32) &&& (1431655765 : Int32)))).toUInt32 >>> (((2 : Int32)).toUInt32 &&& Int32.toUInt32 31)).toInt32) &&& (858993459 : Int32))
  let b := (((a + (((a).toUInt32 >>> (((4 : Int32)).toUInt32 &&& Int32.toUInt32 31)).toInt32)) &&& (252645135 : Int32)) + (((((a + (((a).toUInt32 >>> (((4 : Int32)).toUInt32 &&& Int32.toUInt32 31)).toInt32)) &&& (252645135 : Int32))).toUInt32 >>> (((8 : Int32)).toUInt32 &&& Int32.toUInt32 31)).toInt32))
  (b + (((b).toUInt32 >>> (((16 : Int32)).toUInt32 &&& Int32.toUInt32 31)).toInt32)) &&& (63 : Int32)
theorem bcI_pop : ∀ n : Fin 32, bcI (Int32.ofNat n.val) = popN (Int32.ofNat n.val) := by decide +kernel
theorem w_areMost (hr : RC S F e X h) {x : Nat} (hx : x < 32) (k : Q (.inl (some (.int (b2i (decide (mostI S ≤ popN (Int32.ofNat x))))))) h) : WP (d + 1) mX10_areMost 0 [some (.ref 4), some (.int (Int32.ofNat x))] [] h Q := by
  refine bX10_areMost_0 (bJ6_bitCount_0f7a4_0 (bJ6_bitCount_0f7a4_25 (bJ6_bitCount_0f7a4_42 ?_)))
  rw [KK_ret]
  refine bX10_areMost_4 ⟨by decide, st_K_4 (rcS hr), w_most hr ?_⟩
  rw [KK_ret]
  refine bX10_areMost_8 ?_
  have e := bcI_pop ⟨x, hx⟩
  have e2 : popN (Int32.ofNat x) = bcI (Int32.ofNat x) := e.symm
  rw [e2] at k
  refine ⟨fun c => ?_, fun c => ?_⟩
  · have : ¬ mostI S ≤ bcI (Int32.ofNat x) := by rw [← i_nlt, Classical.not_not]; exact c
    simpa [b2i, this] using k
  · have : mostI S ≤ bcI (Int32.ofNat x) := by rw [← i_nlt]; exact c
    simpa [b2i, this] using k
end LED
