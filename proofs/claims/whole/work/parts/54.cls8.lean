section HEARN
variable {S : SI} {F : SF} {e : EX} {X : MX} {h : HP} {d : Nat} {Q : Out → HP → Prop} {i : Nat} {e1 : Int32} {e3 : RW × UInt32}
theorem iMin_sw (x y : Int32) : (if y < x then y else x) = iMin x y := by
  unfold iMin
  by_cases c : x < y
  · rw [if_pos c]
    rw [if_neg (by rw [Int32.lt_iff_toInt_lt] at c ⊢; omega)]
  · rw [if_neg c]
    by_cases c2 : y < x
    · rw [if_pos c2]
    · rw [if_neg c2]
      rw [Int32.lt_iff_toInt_lt] at c c2
      exact Int32.toInt_inj.mp (by omega)
theorem putsS_ne {m p : Nat} {w : RW} {s : Nat} (hs : s ≠ 12 ∧ s ≠ 14 ∧ s ≠ 15 ∧ s ≠ 16 ∧ s ≠ 17) (k q : Nat) : putsS m p w k S s q = S s q := by
  induction k with
  | zero => rfl
  | succ k ih =>
    show (if tmAt (putsS m p w k S) m (Int32.ofNat (p + k + 1)) = w (10 + 4 * k) then putsS m p w k S else putS (cutP (putsS m p w k S) m (Int32.ofNat (p + k))) m (w (10 + 4 * k)) (w (11 + 4 * k)) (w (12 + 4 * k)) (w (13 + 4 * k))) s q = _
    split
    · exact ih
    · unfold putS cutP
      rw [u2_ne (by omega), u2_ne (by omega), u2_ne (by omega), u2_ne (by omega), u2_ne (by omega), u2_ne (by omega)]
      exact ih
theorem w_follow2 (hr : RC S F e X h) (hi : i < 5) (k : ∀ h', RC (followS S i) F e X h' → hR h' = hR h → Q (.inl none) h') : WP d mX8_follow 0 [some (.ref (150 + 12 * i))] [] h Q := by
  refine bX8_follow_0 ⟨st_K_150 (rcS hr) hi, ?_⟩
  rw [st_R_802_150 (rcS hr) hi]
  exact ⟨st_K_153 (rcS hr) hi, k _ (rc_leased0 (rc_role hr)) rfl⟩
theorem w_happ_put (hr : RC S F (e1, 0, e3) X h) (hi : i < 5) (h0 : 0 ≤ (S 39 0).toInt) (h60 : (S 39 0).toInt ≤ 60) (hw0 : e3.1 0 = 2) {p n0 mn b : Nat} (hb : hR h 1005 4 = b) (hn : S 12 i = Int32.ofNat n0) (hp : p ≤ n0) (h30 : n0 ≤ 30) (hmn : p + mn ≤ 30) (hm3 : mn ≤ 3) (hw4 : e3.1 4 = Int32.ofNat p) (hw8 : e3.1 8 = Int32.ofNat mn) (hw : ∀ k, k < mn → e3.1 (10 + 4 * k) ≠ 0) (hnn : nn32 (FP.fadd (F 7 i) (F 2 0)) = true) {u : Option Value} (k : ∀ h' (_ : Int32), RC (snd (u2 (u2 (putsS i p e3.1 mn S) 13 i (iMax (iMin (e3.1 6) (e3.1 4 + e3.1 8)) (putsS i p e3.1 mn S 13 i))) 25 i (e3.1 1), u2 F 26 i (FP.fadd (F 7 i) (F 2 0))) (ackW (u2 (u2 (putsS i p e3.1 mn S) 13 i (iMax (iMin (e3.1 6) (e3.1 4 + e3.1 8)) (putsS i p e3.1 mn S 13 i))) 25 i (e3.1 1)) i (e3.1 1) 1 (e3.1 4 + e3.1 8)) e3.2).1 (snd (u2 (u2 (putsS i p e3.1 mn S) 13 i (iMax (iMin (e3.1 6) (e3.1 4 + e3.1 8)) (putsS i p e3.1 mn S 13 i))) 25 i (e3.1 1), u2 F 26 i (FP.fadd (F 7 i) (F 2 0))) (ackW (u2 (u2 (putsS i p e3.1 mn S) 13 i (iMax (iMin (e3.1 6) (e3.1 4 + e3.1 8)) (putsS i p e3.1 mn S 13 i))) 25 i (e3.1 1)) i (e3.1 1) 1 (e3.1 4 + e3.1 8)) e3.2).2 (e1, 0, e3) X h' → Q (.inl none) h') : WP (d + 2) mX6_putEntries 0 [some (.ref 131), some (.ref (151 + 12 * i)), some (.ref b), none, none, none] [] h (KK (d + 2) mX6_hearAppend mX6_putEntries 79 [some (.ref 131), some (.ref (150 + 12 * i)), some (.ref b), u] [] Q) := by
  refine bX6_putEntries_0 (w_putEntries hi hn hp h30 hmn hm3 hw0 hw4 hw8 hw ?_ mn 0 h none none (Nat.zero_add _) hr hb)
  intro h1 hr1 hb1
  subst hb1
  rw [KK_ret]
  have t := rd_told hr1
  have hs := rcS hr1
  refine bX6_hearAppend_82 ⟨told_K hr1, st_K_150 hs hi, ?_⟩
  rw [t.2.2.2.2.2.1 (Or.inr (Or.inl hw0)), t.2.2.2.2.1, t.2.2.2.2.2.2.2.1 hw0, rd_commit hr1 hi, iMin_sw]
  have hr2 := rc_commit (i := i) (v := iMax (iMin (e3.1 6) (e3.1 4 + e3.1 8)) (putsS i p e3.1 mn S 13 i)) hr1
  have t2 := rd_told hr2
  have hs2 := rcS hr2
  have e9 := t2.2.1
  show WP _ _ _ _ [.int (hI (sI h1 810 (150 + 12 * i) (iMax (iMin (e3.1 6) (e3.1 4 + e3.1 8)) (putsS i p e3.1 mn S 13 i))) 901 (hR h1 1005 4)), _] (sI h1 810 (150 + 12 * i) (iMax (iMin (e3.1 6) (e3.1 4 + e3.1 8)) (putsS i p e3.1 mn S 13 i))) Q
  have e10 : hI (sI h1 810 (150 + 12 * i) (iMax (iMin (e3.1 6) (e3.1 4 + e3.1 8)) (putsS i p e3.1 mn S 13 i))) 901 (hR h1 1005 4) = e3.1 1 := e9
  rw [e10]
  refine bX6_hearAppend_116 ⟨st_K_131 hs2, by omega, st_K_150 hs2 hi, ?_⟩
  have g2 := (rcG hr2).2.1
  rw [g2]
  refine w_promise hr2 hi (hnn) ?_
  intro h3 hr3 er3 ear3
  rw [KK_ret]
  have er4 : hR h1 1005 4 = hR h3 1005 4 := by rw [er3]; rfl
  rw [er4]
  refine bX6_hearAppend_123 ⟨by decide, st_K_131 (rcS hr3), ?_⟩
  have h39 : putsS i p e3.1 mn S 39 0 = S 39 0 := putsS_ne (by decide) _ _
  refine w_sendAck hr3 hi (by show 0 ≤ (putsS i p e3.1 mn S 39 0).toInt; rw [h39]; exact h0) (by show (putsS i p e3.1 mn S 39 0).toInt ≤ 60; rw [h39]; exact h60) hw0 rfl ?_
  intro h5 e' q
  rw [KK_ret]
  exact bX6_hearAppend_131 (k h5 e' q)
theorem w_hearAppend (hr : RC S F (e1, 0, e3) X h) (hi : i < 5) (h0 : 0 ≤ (S 39 0).toInt) (h60 : (S 39 0).toInt ≤ 60) (hw0 : e3.1 0 = 2) {p n0 mn : Nat} (hn : S 12 i = Int32.ofNat n0) (h30 : n0 ≤ 30) (hmn : p + mn ≤ 30) (hm3 : mn ≤ 3) (hw4 : e3.1 4 = Int32.ofNat p) (hw8 : e3.1 8 = Int32.ofNat mn) (hw : ∀ k, k < mn → e3.1 (10 + 4 * k) ≠ 0) (hw5 : p ≠ 0 → e3.1 5 ≠ 0) (hnn : nn32 (FP.fadd (F 7 i) (F 2 0)) = true) {u : Option Value} (k : ∀ h' (_ : Int32), RC (appendedP (S, F) i e3.1 e3.2).1 (appendedP (S, F) i e3.1 e3.2).2 (e1, 0, e3) X h' → Q (.inl none) h') : WP (d + 3) mX6_hearAppend 0 [some (.ref 131), some (.ref (150 + 12 * i)), some (.ref (hR h 1005 4)), u] [] h Q := by
  have hs := rcS hr
  have t := rd_told hr
  unfold appendedP at k
  refine bX6_hearAppend_0 ⟨told_K hr, st_K_150 hs hi, ?_⟩
  rw [t.2.2.2.1, rd_term hr hi]
  refine ⟨fun c => ⟨by omega, ?_⟩, fun c => ⟨by decide, st_K_131 hs, w_sendAck hr hi h0 h60 hw0 rfl ?_⟩⟩
  · rw [← i_nlt] at c
    rw [if_neg c] at k
    refine w_follow2 hr hi ?_
    intro h1 hr1 er1
    rw [KK_ret]
    have er : hR h 1005 4 = hR h1 1005 4 := by rw [er1]
    rw [er]
    have t1 := rd_told hr1
    have hs1 := rcS hr1
    refine bX6_hearAppend_24 ⟨told_K hr1, ?_⟩
    rw [t1.2.2.2.2.2.1 (Or.inr (Or.inl hw0)), st_R_801_150 hs1 hi]
    have hn1 : followS S i 12 i = Int32.ofNat n0 := hn
    refine ⟨fun c2 => ⟨st_K_150 hs1 hi, by decide, st_K_131 hs1, ?_⟩, fun c2 => ⟨st_K_150 hs1 hi, by omega, st_K_151 hs1 hi, ?_⟩⟩
    · rw [if_neg (fun q => q.1 c2)] at k
      rw [hw4, o_eqn _ _ (by decide) (by omega)] at c2
      subst c2
      rw [hw4, hw8, nt_of rfl (by omega), nt_of rfl (by omega)] at k
      refine w_happ_put hr1 hi h0 h60 hw0 rfl hn1 (Nat.zero_le _) h30 hmn hm3 hw4 hw8 hw hnn ?_
      rw [hw4, hw8]
      exact k
    · refine w_termAt hs1 (rcL hr1) hi (by rw [hn1, o_i _ (by omega)]; omega) ?_
      rw [KK_ret]
      refine bX6_hearAppend_42 ⟨told_K hr1, ?_⟩
      rw [t1.2.2.2.2.2.2.1 (Or.inr hw0), t1.2.2.2.2.2.1 (Or.inr (Or.inl hw0)), st_R_801_150 hs1 hi, rd_len hr1 hi]
      refine ⟨fun c3 => ⟨st_K_150 hs1 hi, by decide, st_K_131 hs1, ?_⟩, fun c3 => ⟨st_K_150 hs1 hi, st_K_151 hs1 hi, by decide, st_K_131 hs1, ?_⟩⟩
      · rw [if_neg (fun q => q.2 c3)] at k
        rw [hw4, hw8, nt_of rfl (by omega), nt_of rfl (by omega)] at k
        have hp : p ≤ n0 := by
          have c4 : tmAt (followS S i) i (e3.1 4) = e3.1 5 := c3
          have hp0 : p ≠ 0 := fun q => c2 (by subst q; exact hw4)
          unfold tmAt at c4
          rw [hn1, hw4, o_i _ (by omega), o_i _ (by omega)] at c4
          by_cases c5 : 1 ≤ (p : Int) ∧ (p : Int) ≤ (n0 : Int)
          · omega
          · rw [if_neg c5] at c4
            exact absurd c4.symm (hw5 hp0)
        refine w_happ_put hr1 hi h0 h60 hw0 rfl hn1 hp h30 hmn hm3 hw4 hw8 hw hnn ?_
        rw [hw4, hw8]
        exact k
      · rw [if_pos ⟨c2, c3⟩] at k
        rw [iMin_sw]
        refine w_sendAck hr1 hi h0 h60 hw0 rfl ?_
        intro h' e' q
        rw [KK_ret]
        exact bX6_hearAppend_72 (k h' e' q)
  · rw [← i_nlt, Classical.not_not] at c
    rw [if_pos c] at k
    intro h' e' q
    rw [KK_ret]
    exact bX6_hearAppend_19 (k h' e' q)
end HEARN
