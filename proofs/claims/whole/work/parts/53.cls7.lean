section HEARM
variable {S : SI} {F : SF} {e : EX} {X : MX} {h : HP} {d : Nat} {Q : Out → HP → Prop} {i : Nat} {e1 : Int32} {e3 : RW × UInt32}
theorem gives_eq {m : Nat} {w : RW} : givesB S F m w = (decide (w 3 = S 9 m) && voteB S F m w) := by
  unfold givesB voteB
  simp only [Bool.and_assoc]
theorem isZ_b2i {b : Bool} : isZ (b2i b) = true := by cases b <;> rfl
theorem w_askSend (hr : RC S F (e1, 0, e3) X h) (hi : i < 5) (h0 : 0 ≤ (S 39 0).toInt) (h60 : (S 39 0).toInt ≤ 60) {b : Nat} {x : Int32} (hx : isZ x = true) (k : ∀ h' (_ : Int32), RC (snd (S, F) (wu (w4 1 (Int32.ofNat i) (e3.1 1) (S 9 i)) 7 x) FP.fconst0).1 (snd (S, F) (wu (w4 1 (Int32.ofNat i) (e3.1 1) (S 9 i)) 7 x) FP.fconst0).2 (e1, 0, e3) X h' → Q (.inl none) h') : WP (d + 1) mX10_send 0 [some (.ref 4), some (.int 1), some (.int (Int32.ofNat i)), some (.int (e3.1 1)), some (.int (S 9 i)), none] [] h (KK (d + 1) mX6_hearAsk mX10_send 54 [some (.ref 131), some (.ref (150 + 12 * i)), some (.ref b), some (.int x)] [] Q) := by
  refine w_send hr h0 h60 ?_
  intro h' a hr' hf' ha ear er hm
  rw [KK_ret]
  obtain ⟨m0, m1, m2, m3, m4, m5, m6, m7, m8, m10, m11, m12, m13⟩ := hm
  refine bX6_hearAsk_57 ⟨fr_K hr' hf', hx, k _ e1 ?_⟩
  refine rc_fin h0 h60 (rc_m908 hr' hf' hx) ha (MSGw_mk ?_ ?_ ?_ ?_ ?_ ?_ ?_ ?_ ?_ ?_ ?_ ?_ ?_ ?_) <;> simp [hI_sF, hI_sI, hF_sF, hF_sI, wu, w4, m0, m1, m2, m3, m4, m5, m6, m7, m8, m10, m11, m12, m13]
theorem w_hearAsk (hr : RC S F (e1, 0, e3) X h) (hi : i < 5) (h0 : 0 ≤ (S 39 0).toInt) (h60 : (S 39 0).toInt ≤ 60) (h30 : (S 12 i).toInt ≤ 30) (hw0 : e3.1 0 = 0) {u : Option Value} (k : ∀ h' (_ : Int32), RC (askedP (S, F) i e3.1).1 (askedP (S, F) i e3.1).2 (e1, 0, e3) X h' → Q (.inl none) h') : WP (d + 3) mX6_hearAsk 0 [some (.ref 131), some (.ref (150 + 12 * i)), some (.ref (hR h 1005 4)), u] [] h Q := by
  have hs := rcS hr
  have t := rd_told hr
  have k0 : givesB S F i e3.1 = false → ∀ h' (_ : Int32), RC (snd (S, F) (wu (w4 1 (Int32.ofNat i) (e3.1 1) (S 9 i)) 7 0) FP.fconst0).1 (snd (S, F) (wu (w4 1 (Int32.ofNat i) (e3.1 1) (S 9 i)) 7 0) FP.fconst0).2 (e1, 0, e3) X h' → Q (.inl none) h' := by
    intro hg h' e' q
    refine k h' e' ?_
    unfold askedP
    rw [hg]
    exact q
  refine bX6_hearAsk_0 ⟨told_K hr, st_K_150 hs hi, ?_⟩
  rw [t.2.2.2.1, rd_term hr hi, st_I_800_150 hs hi, t.2.1, st_R_601_131 hs]
  refine ⟨fun c => ⟨fun _ => ⟨st_K_131 hs, by decide, st_K_4 hs, w_askSend hr hi h0 h60 rfl (k0 ?_)⟩, fun c2 => absurd rfl c2⟩, fun c => ⟨by omega, w_canVote hr hi h30 hw0 ?_⟩⟩
  · rw [gives_eq, decide_eq_false c]
    rfl
  · have c1 : e3.1 3 = S 9 i := Classical.not_not.mp c
    rw [KK_ret]
    refine bX6_hearAsk_16 ?_
    rw [rd_term hr hi, st_I_800_150 hs hi, t.2.1, st_R_601_131 hs, b2i_z]
    have hgv : givesB S F i e3.1 = voteB S F i e3.1 := by rw [gives_eq, decide_eq_true c1]; rfl
    refine ⟨fun cv => ⟨fun _ => ⟨st_K_131 hs, st_K_150 hs hi, told_K hr, by decide, st_K_4 hs, w_askSend hr hi h0 h60 rfl (k0 (by rw [hgv]; exact cv))⟩, fun c2 => absurd rfl c2⟩, fun cv => ⟨fun c2 => absurd c2 (by decide), fun _ => ⟨told_K hr, st_K_150 hs hi, st_K_131 hs, by decide, st_K_4 hs, ?_⟩⟩⟩
    have hgt : givesB S F i e3.1 = true := by rw [hgv]; simpa using cv
    have hr2 := rc_vote (i := i) (v := e3.1 1) hr
    have t2 := (rd_told hr2).2.1
    have er : hR (sI h 809 (150 + 12 * i) (e3.1 1)) 1005 4 = hR h 1005 4 := rfl
    rw [er] at t2
    rw [t2, rd_term hr2 hi, st_I_800_150 (rcS hr2) hi]
    refine w_askSend hr2 hi h0 h60 rfl ?_
    intro h' e' q
    refine k h' e' ?_
    unfold askedP
    rw [hgt]
    exact q
theorem bit_or_lt : ∀ (x : Fin 32) (j : Fin 5), 0 ≤ (Int32.ofNat x.val ||| bitI (Int32.ofNat j.val)).toInt ∧ (Int32.ofNat x.val ||| bitI (Int32.ofNat j.val)).toInt ≤ 31 := by decide +kernel
theorem bit_or {x : Int32} {g j : Nat} (hx : x = Int32.ofNat g) (hg : g < 32) (hj : j < 5) : ∃ n, n < 32 ∧ (x ||| bitI (Int32.ofNat j)) = Int32.ofNat n := by
  subst hx
  have q := bit_or_lt ⟨g, hg⟩ ⟨j, hj⟩
  obtain ⟨n, hn, h1, _⟩ := o_of q.1 q.2
  exact ⟨n, by omega, hn⟩
theorem w_hearVote (hr : RC S F (e1, 0, e3) X h) (hi : i < 5) (hw0 : e3.1 0 = 1) {f g : Nat} (hf : e3.1 1 = Int32.ofNat f) (hf5 : f < 5) (hg : S 18 i = Int32.ofNat g) (hg5 : g < 32) (k : ∀ h', RC (votedS S i e3.1) F (e1, 0, e3) X h' → Q (.inl none) h') : WP (d + 2) mX6_hearVote 0 [some (.ref 131), some (.ref (150 + 12 * i)), some (.ref (hR h 1005 4))] [] h Q := by
  have hs := rcS hr
  have t := rd_told hr
  refine bX6_hearVote_0 ⟨st_K_150 hs hi, ?_⟩
  rw [rd_role hr hi, t.2.2.2.1, rd_term hr hi, t.2.2.2.2.2.2.2.2.1 (Or.inl hw0), st_R_601_131 hs, rd_voters hr hi, t.2.1]
  unfold votedS at k
  refine ⟨fun c => ?_, fun c => ⟨told_K hr, fun c2 => ?_, fun c2 => ⟨fun c3 => ⟨st_K_131 hs, by decide, st_K_4 hs, ?_⟩, fun c3 => ?_⟩⟩⟩
  · rw [if_pos (Or.inl c)] at k; exact k h hr
  · rw [if_pos (Or.inr (Or.inl c2))] at k; exact k h hr
  · rw [if_neg (fun q => q.elim c (fun q => q.elim c2 c3))] at k
    have e811 : hI (sI h 811 (150 + 12 * i) (S 18 i ||| (1 : Int32) <<< (e3.1 1 &&& 31))) 811 (150 + 12 * i) = S 18 i ||| bitI (e3.1 1) := by simp [hI_sI, bitI]
    rw [e811]
    have hr2 := rc_voters (i := i) (v := S 18 i ||| bitI (e3.1 1)) hr
    obtain ⟨n, hn, hnb⟩ := bit_or hg hg5 hf5
    rw [← hf] at hnb
    rw [hnb] at hr2 k ⊢
    have e4 : (S 18 i ||| (1 : Int32) <<< (e3.1 1 &&& 31)) = Int32.ofNat n := hnb
    rw [e4]
    refine w_areMost hr2 hn ?_
    rw [KK_ret]
    refine bX6_hearVote_53 ?_
    rw [b2i_z, decide_eq_false_iff_not]
    have em : mostI (u2 S 18 i (Int32.ofNat n)) = mostI S := rfl
    rw [em]
    refine ⟨fun c4 => ?_, fun c4 => ?_⟩
    · rw [if_neg c4] at k
      exact bX6_hearVote_75 (k _ hr2)
    · rw [if_pos (Classical.not_not.mp c4)] at k
      have hr3 := rc_role (i := i) (v := 2) hr2
      have hs3 := rcS hr3
      rw [st_R_801_150 (rcS hr2) hi, st_R_802_150 (rcS hr2) hi, rd_len hr3 hi]
      refine ⟨st_K_150 hs hi, st_K_151 hs hi, by omega, st_K_153 hs hi, w_start0 hr3 hi u2_eq ?_⟩
      intro h' hr'
      rw [KK_ret]
      refine bX6_hearVote_75 (k _ ?_)
      have e5 : startS (u2 (u2 S 18 i (Int32.ofNat n)) 11 i 2) i = startS (u2 S 18 i (Int32.ofNat n)) i := by
        funext s q
        unfold startS
        by_cases c5 : s = 11 ∧ q = i
        · rw [if_pos c5, if_pos c5]
        · rw [if_neg c5, if_neg c5]
          have : u2 (u2 S 18 i (Int32.ofNat n)) 11 i 2 s q = u2 S 18 i (Int32.ofNat n) s q := u2_ne (by omega)
          rw [this]
          rfl
      rw [← e5]
      exact hr'
  · rw [if_pos (Or.inr (Or.inr (Classical.not_not.mp c3)))] at k; exact k h hr
/-- the commit that most know, from entry x down -/
def cmtC (S : SI) (m : Nat) : Nat → SI
  | 0 => S
  | x + 1 => if ((x + 1 : Nat) : Int) ≤ (S 13 m).toInt then S else if mostI S ≤ Int32.ofNat (knowC S m (Int32.ofNat (x + 1)) 5) + 1 then (if tmAt S m (Int32.ofNat (x + 1)) = S 9 m then u2 S 13 m (Int32.ofNat (x + 1)) else S) else cmtC S m x
theorem w_commit_8 (hr : RC S F e X h) (hi : i < 5) (h30 : (S 12 i).toInt ≤ 30) (hc0 : 0 ≤ (S 13 i).toInt) (k2 : ∀ h', hR h' = hR h → True) :
    ∀ (x : Nat), (x : Int) ≤ (S 12 i).toInt → (∀ h', RC (cmtC S i x) F e X h' → hR h' = hR h → Q (.inl none) h') → WP (d + 2) mX6_commitWhatMostKnow 8 [some (.ref 131), some (.ref (150 + 12 * i)), some (.int (Int32.ofNat x))] [] h Q := by
  have hs := rcS hr
  intro x
  induction x with
  | zero =>
    intro hx k
    refine bX6_commitWhatMostKnow_8 ⟨st_K_150 hs hi, fun _ => k h hr rfl, fun c => absurd ?_ c⟩
    rw [rd_commit hr hi, Int32.le_iff_toInt_le]
    exact hc0
  | succ x ih =>
    intro hx k
    refine bX6_commitWhatMostKnow_8 ⟨st_K_150 hs hi, ?_⟩
    rw [rd_commit hr hi, st_R_802_150 hs hi, Int32.le_iff_toInt_le, o_i _ (by omega)]
    unfold cmtC at k
    refine ⟨fun c => ?_, fun c => ⟨by omega, st_K_153 hs hi, ?_⟩⟩
    · rw [if_pos c] at k; exact k h hr rfl
    · rw [if_neg c] at k
      refine bX5_knowing_0 (w_knowing hr hi ?_ 5 0 rfl)
      rw [KK_ret]
      refine bX6_commitWhatMostKnow_24 ?_
      rw [st_R_601_131 hs]
      refine ⟨st_K_131 hs, by decide, st_K_4 hs, w_most hr ?_⟩
      rw [KK_ret]
      refine bX6_commitWhatMostKnow_33 ?_
      rw [st_R_801_150 hs hi]
      refine ⟨fun c2 => ?_, fun c2 => ⟨st_K_150 hs hi, by omega, st_K_151 hs hi, w_termAt hs (rcL hr) hi h30 ?_⟩⟩
      · rw [← Classical.not_not (a := (_ : Int32) < _), i_nlt] at c2
        rw [if_neg c2] at k
        have e : Int32.ofNat (x + 1) + (-1 : Int32) = Int32.ofNat x := by
          rw [show Int32.ofNat (x + 1) = Int32.ofNat x + 1 from Int32.ofNat_add x 1, Int32.add_assoc]
          exact Int32.add_zero _
        rw [e]
        exact ih (by omega) k
      · rw [i_nlt] at c2
        rw [if_pos c2] at k
        rw [KK_ret]
        refine bX6_commitWhatMostKnow_44 ⟨st_K_150 hs hi, ?_⟩
        rw [rd_term hr hi]
        refine ⟨fun c3 => ?_, fun c3 => ?_⟩
        · rw [if_neg c3] at k; exact k h hr rfl
        · rw [if_pos (Classical.not_not.mp c3)] at k
          exact k _ (rc_commit hr) rfl
theorem w_commit (hr : RC S F e X h) (hi : i < 5) (hl0 : 0 ≤ (S 12 i).toInt) (h30 : (S 12 i).toInt ≤ 30) (hc0 : 0 ≤ (S 13 i).toInt) {u : Option Value} (k : ∀ h', RC (cmtC S i (nt (S 12 i))) F e X h' → hR h' = hR h → Q (.inl none) h') : WP (d + 2) mX6_commitWhatMostKnow 0 [some (.ref 131), some (.ref (150 + 12 * i)), u] [] h Q := by
  have hs := rcS hr
  refine bX6_commitWhatMostKnow_0 ⟨st_K_150 hs hi, ?_⟩
  rw [st_R_801_150 hs hi, rd_len hr hi]
  obtain ⟨n, hn, hn30, hnt⟩ := o_of hl0 h30
  have hnn : nt (S 12 i) = n := nt_of hn (by omega)
  rw [hnn] at k
  refine ⟨st_K_151 hs hi, ?_⟩
  rw [hn]
  exact w_commit_8 hr hi h30 hc0 (fun _ _ => trivial) n (by omega) k
theorem ckF_congr {S S' : SI} {F F' : SF} (h1 : S' 21 = S 21) (h2 : F' 22 = F 22) (i j : Nat) : ckF S' F' i j = ckF S F i j := by
  unfold ckF
  rw [h1, h2]
theorem sinceC_congr {S S' : SI} {F F' : SF} (h1 : S' 21 = S 21) (h2 : F' 22 = F 22) (i : Nat) (x : UInt32) (j : Nat) : sinceC S' F' i x j = sinceC S F i x j := by
  induction j with
  | zero => rfl
  | succ j ih => unfold sinceC; rw [ih, h1, ckF_congr h1 h2]
theorem clockC_congr {S S' : SI} {F F' : SF} (h1 : S' 21 = S 21) (h2 : F' 22 = F 22) (i : Nat) (n : Int32) (j : Nat) : clockC S' F' i n j = clockC S F i n j := by
  induction j with
  | zero => rfl
  | succ j ih => unfold clockC; rw [ih, h1, ckF_congr h1 h2, sinceC_congr h1 h2]
/-- the lease as the class renews it -/
def leaseC (P : PT) (m : Nat) : PT := if mostI P.1 ≤ popN (bits5 (fun j => P.1 21 (5 * m + j)) ||| bitI (Int32.ofNat m)) then (u2 P.1 23 m 1, u2 P.2 24 m (FP.fadd (clockC P.1 P.2 m (mostI P.1 - 1) 5) (FP.fmul (P.2 2 0) (FP.fsub FP.fconst1 (P.2 3 0))))) else P
theorem rc_leased1 (hr : RC S F e X h) : RC (u2 S 23 i 1) (u2 F 24 i (hF h 505 (153 + 12 * i))) e X (sI h 504 (153 + 12 * i) 1) := by
  obtain ⟨hs, hrow, hm, hl, hle, hc, hn, hh, hg⟩ := hr
  refine ⟨STR_sI (by decide) hs, hrow, hm, hl, fun j hj => ?_, hc, hn, hh, hg⟩
  have q := hle j hj
  refine ⟨?_, ?_, q.2.2.1, q.2.2.2⟩
  · show (if 504 = 504 ∧ 153 + 12 * j = 153 + 12 * i then 1 else hI h 504 (153 + 12 * j)) = _
    by_cases c : j = i
    · subst c; rw [if_pos ⟨rfl, rfl⟩, u2_eq]
    · rw [if_neg (by omega), u2_ne (by omega)]; exact q.1
  · show u2 S 23 i 1 23 j = 1 → hF h 505 (153 + 12 * j) = _
    by_cases c : j = i
    · subst c; intro _; rw [u2_eq]
    · rw [u2_ne (by omega), u2_ne (by omega)]; exact q.2.1
theorem bits5_z (f : Nat → Int32) (hz : Z5 f) : 0 ≤ (bits5 f).toInt ∧ (bits5 f).toInt ≤ 31 := by
  have z0 := hz 0 (by decide)
  have z1 := hz 1 (by decide)
  have z2 := hz 2 (by decide)
  have z3 := hz 3 (by decide)
  have z4 := hz 4 (by decide)
  unfold bits5
  rcases z0 with z0 | z0 <;> rcases z1 with z1 | z1 <;> rcases z2 with z2 | z2 <;> rcases z3 with z3 | z3 <;> rcases z4 with z4 | z4 <;> rw [z0, z1, z2, z3, z4] <;> decide
theorem w_renewLease (hr : RC S F e X h) (hi : i < 5) (hz : Z5 (fun o => S 21 (5 * i + o))) (n1 : nn32 (FP.fsub FP.fconst1 (F 3 0)) = true) (n2 : nn32 (FP.fmul (F 2 0) (FP.fsub FP.fconst1 (F 3 0))) = true) (n3 : nn32 (FP.fadd (clockC S F i (mostI S - 1) 5) (FP.fmul (F 2 0) (FP.fsub FP.fconst1 (F 3 0)))) = true) (k : ∀ h', RC (leaseC (S, F) i).1 (leaseC (S, F) i).2 e X h' → Q (.inl none) h') : WP (d + 4) mX6_renewLease 0 [some (.ref 131), some (.ref (150 + 12 * i))] [] h Q := by
  have hs := rcS hr
  refine bX6_renewLease_0 ?_
  rw [st_R_802_150 hs hi, st_R_601_131 hs, rd_answ hr hi, st_I_800_150 hs hi]
  refine ⟨st_K_131 hs, st_K_150 hs hi, st_K_153 hs hi, by decide, st_K_4 hs, ?_⟩
  obtain ⟨g, hg, hg31, _⟩ := o_of (bits5_z _ hz).1 (bits5_z _ hz).2
  obtain ⟨n, hn, hnb⟩ := bit_or hg (by omega) hi
  have e4 : (bits5 (fun j => S 21 (5 * i + j)) ||| (1 : Int32) <<< (Int32.ofNat i &&& 31)) = Int32.ofNat n := hnb
  rw [e4]
  unfold leaseC at k
  rw [hnb] at k
  refine w_areMost hr hn ?_
  rw [KK_ret]
  refine bX6_renewLease_21 ?_
  rw [b2i_z, decide_eq_false_iff_not, st_R_802_150 hs hi, st_R_601_131 hs]
  refine ⟨fun c => ?_, fun c => ⟨st_K_150 hs hi, st_K_153 hs hi, st_K_131 hs, by decide, st_K_4 hs, ?_⟩⟩
  · rw [if_neg c] at k; exact k h hr
  · rw [if_pos (Classical.not_not.mp c)] at k
    have hr2 := rc_leased1 (i := i) hr
    refine w_most hr2 ?_
    rw [KK_ret]
    refine bX6_renewLease_47 ⟨by omega, st_K_153 (rcS hr2) hi, bX5_clockOf_0 (w_clockOf hr2 hi hz ?_ 5 0 rfl)⟩
    rw [KK_ret]
    refine bX6_renewLease_52 ?_
    have g2 := rcG hr2
    rw [g2.2.1, g2.2.2]
    have ec : clockC (u2 S 23 i 1) (u2 F 24 i (hF h 505 (153 + 12 * i))) i (mostI (u2 S 23 i 1) - 1) 5 = clockC S F i (mostI S - 1) 5 := clockC_congr rfl rfl i _ 5
    rw [ec]
    exact ⟨st_K_131 (rcS hr2), n1, n2, n3, st_K_153 (rcS hr2) hi, k _ (rc_lease hr)⟩
end HEARM
