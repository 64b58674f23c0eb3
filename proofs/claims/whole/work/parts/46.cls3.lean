section RCP
variable {S : SI} {F : SF} {e : EX} {X : MX} {h : HP}
theorem rcS (hr : RC S F e X h) : STR h := hr.1
theorem rcR (hr : RC S F e X h) : gRow h := hr.2.1
theorem rcM (hr : RC S F e X h) : gMach S F h := hr.2.2.1
theorem rcL (hr : RC S F e X h) : gLog S h := hr.2.2.2.1
theorem rcD (hr : RC S F e X h) : gLead S F h := hr.2.2.2.2.1
theorem rcC (hr : RC S F e X h) : gCho S h := hr.2.2.2.2.2.1
theorem rcN (hr : RC S F e X h) : gNet S F e h := hr.2.2.2.2.2.2.1
theorem rcH (hr : RC S F e X h) : gHist S h := hr.2.2.2.2.2.2.2.1
theorem rcG (hr : RC S F e X h) : gGlob F h := hr.2.2.2.2.2.2.2.2.1
theorem rcX (hr : RC S F e X h) : gMod X h := hr.2.2.2.2.2.2.2.2.2
variable {d : Nat} {Q : Out → HP → Prop} {i : Nat}
theorem rd_up (hr : RC S F e X h) (hi : i < 5) : hI h 804 (150 + 12 * i) = S 5 i := (rcM hr i hi).1
theorem rd_role (hr : RC S F e X h) (hi : i < 5) : hI h 807 (150 + 12 * i) = S 11 i := (rcM hr i hi).2.1
theorem rd_term (hr : RC S F e X h) (hi : i < 5) : hI h 808 (150 + 12 * i) = S 9 i := (rcM hr i hi).2.2.1
theorem rd_vote (hr : RC S F e X h) (hi : i < 5) : hI h 809 (150 + 12 * i) = S 10 i := (rcM hr i hi).2.2.2.1
theorem rd_commit (hr : RC S F e X h) (hi : i < 5) : hI h 810 (150 + 12 * i) = S 13 i := (rcM hr i hi).2.2.2.2.1
theorem rd_voters (hr : RC S F e X h) (hi : i < 5) : hI h 811 (150 + 12 * i) = S 18 i := (rcM hr i hi).2.2.2.2.2.1
theorem rd_pto (hr : RC S F e X h) (hi : i < 5) : hI h 812 (150 + 12 * i) = S 25 i := (rcM hr i hi).2.2.2.2.2.2.1
theorem rd_clock (hr : RC S F e X h) (hi : i < 5) : hF h 805 (150 + 12 * i) = F 7 i := (rcM hr i hi).2.2.2.2.2.2.2.1
theorem rd_rate (hr : RC S F e X h) (hi : i < 5) : hF h 806 (150 + 12 * i) = F 8 i := (rcM hr i hi).2.2.2.2.2.2.2.2.1
theorem rd_puntil (hr : RC S F e X h) (hi : i < 5) (hp : S 25 i ≠ -1) : hF h 813 (150 + 12 * i) = F 26 i := (rcM hr i hi).2.2.2.2.2.2.2.2.2 hp
theorem rd_len (hr : RC S F e X h) (hi : i < 5) : hI h 701 (151 + 12 * i) = S 12 i := (rcL hr i hi).1
theorem rd_leased (hr : RC S F e X h) (hi : i < 5) : hI h 504 (153 + 12 * i) = S 23 i := (rcD hr i hi).1
theorem rd_luntil (hr : RC S F e X h) (hi : i < 5) (hp : S 23 i = 1) : hF h 505 (153 + 12 * i) = F 24 i := (rcD hr i hi).2.1 hp
theorem rd_answ (hr : RC S F e X h) (hi : i < 5) : hI h 502 (153 + 12 * i) = bits5 (fun j => S 21 (5 * i + j)) := (rcD hr i hi).2.2.1
theorem rd_n (hr : RC S F e X h) : hI h 1000 4 = S 0 0 := (rcN hr).1
theorem rd_cnt (hr : RC S F e X h) : hI h 1001 4 = S 39 0 + e.2.1 := (rcN hr).2.1
theorem rd_sent (hr : RC S F e X h) : hI h 1002 4 = S 40 0 + e.1 := (rcN hr).2.2.1
/-- a < b of floats, as both programs compare -/
def fltG (a b : UInt32) : Bool := decide (¬ 0 ≤ Op.cmpValue (FP.fcmp a b) .g)
def promB (S : SI) (F : SF) (i : Nat) : Bool := decide (S 25 i ≠ -1) && fltG (F 7 i) (F 26 i)
theorem w_hasPromised (hr : RC S F e X h) (hi : i < 5) (k : Q (.inl (some (.int (b2i (promB S F i))))) h) : WP d mX8_hasPromised 0 [some (.ref (150 + 12 * i))] [] h Q := by
  refine bX8_hasPromised_0 ⟨st_K_150 (rcS hr) hi, ?_⟩
  rw [rd_pto hr hi, rd_clock hr hi]
  refine ⟨fun c => ?_, fun c => ?_⟩
  · simpa [promB, b2i, c] using k
  · rw [rd_puntil hr hi c]
    refine ⟨fun c2 => ?_, fun c2 => ?_⟩
    · simpa [promB, b2i, c, fltG, c2] using k
    · simpa [promB, b2i, c, fltG, c2] using k
theorem w_holdsLease (hr : RC S F e X h) (hi : i < 5) (hz : S 23 i = 0 ∨ S 23 i = 1) (k : Q (.inl (some (.int (b2i (decide (S 23 i = 1) && fltG (F 7 i) (F 24 i)))))) h) : WP d mX8_holdsLease 0 [some (.ref (150 + 12 * i))] [] h Q := by
  refine bX8_holdsLease_0 ⟨st_K_150 (rcS hr) hi, ?_⟩
  rw [st_R_802_150 (rcS hr) hi, rd_leased hr hi, rd_clock hr hi]
  refine ⟨st_K_153 (rcS hr) hi, fun c => ?_, fun c => ?_⟩
  · simpa [b2i, c] using k
  · have c1 : S 23 i = 1 := hz.resolve_left c
    rw [rd_luntil hr hi c1]
    refine ⟨fun c2 => ?_, fun c2 => ?_⟩
    · simpa [b2i, c1, fltG, c2] using k
    · simpa [b2i, c1, fltG, c2] using k
theorem w_agreed (hr : RC S F e X h) (hi : i < 5) (h30 : (S 12 i).toInt ≤ 30) (k : Q (.inl (some (.int (b2i (decide (0 < (S 13 i).toInt ∧ tmAt S i (S 13 i) = S 9 i))))) ) h) : WP (d + 2) mX8_agreedInItsTerm 0 [some (.ref (150 + 12 * i))] [] h Q := by
  refine bX8_agreedInItsTerm_0 ⟨st_K_150 (rcS hr) hi, ?_⟩
  rw [rd_commit hr hi, st_R_801_150 (rcS hr) hi, Int32.le_iff_toInt_le, i_zero]
  refine ⟨fun c => ?_, fun c => ⟨by omega, st_K_151 (rcS hr) hi, ?_⟩⟩
  · have : ¬ 0 < (S 13 i).toInt := by omega
    simpa [b2i, this] using k
  · have c1 : 0 < (S 13 i).toInt := by omega
    refine w_termAt (rcS hr) (rcL hr) hi h30 ?_
    rw [KK_ret]
    refine bX8_agreedInItsTerm_18 ⟨st_K_150 (rcS hr) hi, ?_⟩
    rw [rd_term hr hi]
    refine ⟨fun c2 => ?_, fun c2 => ?_⟩
    · simpa [b2i, c1, c2] using k
    · simpa [b2i, c1, Classical.not_not.mp c2] using k
theorem w_follow (hr : RC S F e X h) (hi : i < 5) (k : ∀ h', RC (u2 (u2 S 11 i 0) 23 i 0) F e X h' → hC h' = hC h → hZ h' = hZ h → Q (.inl none) h') : WP d mX8_follow 0 [some (.ref (150 + 12 * i))] [] h Q := by
  refine bX8_follow_0 ⟨st_K_150 (rcS hr) hi, ?_⟩
  rw [st_R_802_150 (rcS hr) hi]
  exact ⟨st_K_153 (rcS hr) hi, k _ (rc_leased0 (rc_role hr)) rfl rfl⟩
end RCP
