/-! ===== calls of the class: deliver ===== -/
section QHD
variable {S S' : SI} {F : SF} {e : EX} {X : MX} {h h' : HP} {d : Nat} {Q : Out → HP → Prop} {e1 : Int32} {e3 : RW × UInt32} {n a b : Nat}
/-- what dealing with a message does, in the class's way -/
def hearC (P : PT) (m : Nat) (w : RW) (c : UInt32) : PT :=
  let P1 : PT := if w 0 ≤ 3 then (learnS P.1 m (w 3), P.2) else P
  if w 0 = 0 then askedP P1 m w else if w 0 = 1 then (votedS P1.1 m w, P1.2) else if w 0 = 2 then appendedP P1 m w c else if w 0 = 3 then ackedC P1 m w c else
  if w 0 = 4 then preparedP P1 m w else if w 0 = 5 then promisedP P1 m w else if w 0 = 6 then acceptedP P1 m w else (countsC P1.1 m w, P1.2)
/-- what holds where machine m deals with a message of terms -/
def HRL (S : SI) (F : SF) (m : Nat) (w : RW) (c : UInt32) : Prop :=
  (∃ q, S 39 0 = Int32.ofNat q ∧ q ≤ 60) ∧ (∃ l, S 12 m = Int32.ofNat l ∧ l ≤ 30) ∧ 0 ≤ (S 13 m).toInt ∧ (∃ f, w 1 = Int32.ofNat f ∧ f < 5) ∧ (∃ g, S 18 m = Int32.ofNat g ∧ g < 32) ∧ Z5 (fun o => S 21 (5 * m + o)) ∧ nn32 (FP.fadd (F 7 m) (F 2 0)) = true ∧ nn32 (FP.fsub FP.fconst1 (F 3 0)) = true ∧ nn32 (FP.fmul (F 2 0) (FP.fsub FP.fconst1 (F 3 0))) = true ∧
  (w 0 = 2 → ∃ p mn, p + mn ≤ 30 ∧ mn ≤ 3 ∧ w 4 = Int32.ofNat p ∧ w 8 = Int32.ofNat mn ∧ (∀ k, k < mn → w (10 + 4 * k) ≠ 0) ∧ (p ≠ 0 → w 5 ≠ 0)) ∧
  (w 0 = 3 → ∀ S2 f, S2 21 = S 21 → S2 0 = S 0 → w 1 = Int32.ofNat f → f < 5 → nn32 (FP.fadd (clockC (u2 S2 21 (5 * m + f) 1) (u2 F 22 (5 * m + f) (tkF S2 F m f c)) m (mostI S - 1) 5) (FP.fmul (F 2 0) (FP.fsub FP.fconst1 (F 3 0)))) = true)
theorem learnS_ne {m : Nat} {t : Int32} {s : Nat} (hs : s ≠ 9 ∧ s ≠ 10 ∧ s ≠ 11 ∧ s ≠ 23) : learnS S m t s = S s := by
  funext k
  unfold learnS followS
  split
  · rw [u2_ne (by omega), u2_ne (by omega), u2_ne (by omega), u2_ne (by omega)]
  · rfl
theorem w_hearL (hr : RC S F (e1, 0, e3) X h) {m kd : Nat} (hm : m < 5) (hw2 : e3.1 2 = Int32.ofNat m) (hk : e3.1 0 = Int32.ofNat kd) (hk3 : kd ≤ 3) (H : HRL S F m e3.1 e3.2) {u : Option Value} (k : ∀ h', RC (hearC (S, F) m e3.1 e3.2).1 (hearC (S, F) m e3.1 e3.2).2 (e1, 0, e3) X h' → Q (.inl none) h') : WP (d + 6) mX6_hear 0 [some (.ref 131), some (.ref (hR h 1005 4)), u] [] h Q := by
  have hs := rcS hr
  have t := rd_told hr
  obtain ⟨⟨q, hq, hq60⟩, ⟨l, hl, hl30⟩, hc0, ⟨f, hf, hf5⟩, ⟨g, hg, hg32⟩, hz, n1, n2, n3, hA, hB⟩ := H
  refine bX6_hear_0 ⟨st_K_131 hs, told_K hr, ?_⟩
  rw [st_R_600_131 hs, st_K_3 hs, t.2.2.1, t.2.2.2.1]
  show (25 ≤ 25 ∧ 25 ≤ 29) ∧ inA h 3 (e3.1 2) = true ∧ 1 < hAR h 3 (e3.1 2).toNatClampNeg ∧ hK h (hAR h 3 (e3.1 2).toNatClampNeg) = 8 ∧ WP (d + 5) mX8_learnTerm 0 [some (.ref (hAR h 3 (e3.1 2).toNatClampNeg)), some (.int (e3.1 3))] [] h (KK (d + 5) mX6_hear mX8_learnTerm 15 [some (.ref 131), some (.ref (hR h 1005 4)), some (.ref (hAR h 3 (e3.1 2).toNatClampNeg))] [] Q)
  rw [hw2, o_c _ (by omega), st_AR_3_e hs hm]
  refine ⟨⟨by decide, by decide⟩, inA_o (st_L_3 hs) (by omega) (by decide), by omega, st_K_150 hs hm, w_learnTerm hr hm ?_⟩
  intro h1 hr1 er1 ear1
  rw [KK_ret]
  have er : hR h 1005 4 = hR h1 1005 4 := by rw [er1]
  rw [er]
  have t1 := rd_told hr1
  have hs1 := rcS hr1
  have L : ∀ s, s ≠ 9 → s ≠ 10 → s ≠ 11 → s ≠ 23 → learnS S m (e3.1 3) s = S s := fun s a1 a2 a3 a4 => learnS_ne ⟨a1, a2, a3, a4⟩
  unfold hearC at k
  dsimp only at k
  rw [if_pos (show e3.1 0 ≤ 3 by rw [hk, o_len _ _ (by decide) (by omega)]; exact hk3)] at k
  have h39 : (learnS S m (e3.1 3) 39 0) = Int32.ofNat q := by rw [L 39 (by decide) (by decide) (by decide) (by decide)]; exact hq
  have h12 : (learnS S m (e3.1 3) 12 m) = Int32.ofNat l := by rw [L 12 (by decide) (by decide) (by decide) (by decide)]; exact hl
  have p0 : 0 ≤ (learnS S m (e3.1 3) 39 0).toInt := by rw [h39, o_i _ (by omega)]; omega
  have p60 : (learnS S m (e3.1 3) 39 0).toInt ≤ 60 := by rw [h39, o_i _ (by omega)]; omega
  refine bX6_hear_18 ⟨told_K hr1, ?_⟩
  rw [t1.1]
  refine ⟨fun c => ⟨by decide, st_K_131 hs1, ?_⟩, fun c => ⟨by decide, st_K_131 hs1, ?_⟩, fun c => ⟨by decide, st_K_131 hs1, ?_⟩, fun c => ⟨by decide, st_K_131 hs1, ?_⟩, fun c => ?_⟩
  · have c' : e3.1 0 = 0 := c
    rw [if_pos c'] at k
    refine w_hearAsk hr1 hm p0 p60 (by rw [h12, o_i _ (by omega)]; omega) c' ?_
    intro h2 _ hr2
    rw [KK_ret]
    exact bX6_hear_58 (k h2 hr2)
  · have c' : e3.1 0 = 1 := c
    rw [if_neg (by rw [c']; decide), if_pos c'] at k
    refine w_hearVote hr1 hm c' hf hf5 (by rw [L 18 (by decide) (by decide) (by decide) (by decide)]; exact hg) hg32 ?_
    intro h2 hr2
    rw [KK_ret]
    exact bX6_hear_67 (k h2 hr2)
  · have c' : e3.1 0 = 2 := c
    rw [if_neg (by rw [c']; decide), if_neg (by rw [c']; decide), if_pos c'] at k
    obtain ⟨p, mn, a1, a2, a3, a4, a5, a6⟩ := hA c'
    refine w_hearAppend hr1 hm p0 p60 c' h12 hl30 a1 a2 a3 a4 a5 a6 n1 ?_
    intro h2 _ hr2
    rw [KK_ret]
    exact bX6_hear_76 (k h2 hr2)
  · have c' : e3.1 0 = 3 := c
    rw [if_neg (by rw [c']; decide), if_neg (by rw [c']; decide), if_neg (by rw [c']; decide), if_pos c'] at k
    have em : mostI (learnS S m (e3.1 3)) = mostI S := by unfold mostI; rw [L 0 (by decide) (by decide) (by decide) (by decide)]
    refine w_hearAck hr1 hm c' hf hf5 (by rw [h12, o_i _ (by omega)]; omega) (by rw [h12, o_i _ (by omega)]; omega) (by rw [L 13 (by decide) (by decide) (by decide) (by decide)]; exact hc0) ?_ n2 n3 ?_ ?_
    · intro o ho
      show learnS S m (e3.1 3) 21 (5 * m + o) = 0 ∨ learnS S m (e3.1 3) 21 (5 * m + o) = 1
      rw [L 21 (by decide) (by decide) (by decide) (by decide)]
      exact hz o ho
    · intro S2 q1 q2
      rw [em]
      exact hB c' S2 f (by rw [q1, L 21 (by decide) (by decide) (by decide) (by decide)]) (by rw [q2, L 0 (by decide) (by decide) (by decide) (by decide)]) hf hf5
    · intro h2 hr2
      rw [KK_ret]
      exact bX6_hear_85 (k h2 hr2)
  · have c0 : ¬ e3.1 0 = 0 := c.1
    have c1 : ¬ e3.1 0 = 1 := c.2.1
    have c2 : ¬ e3.1 0 = 2 := c.2.2.1
    have c3 : ¬ e3.1 0 = 3 := c.2.2.2
    rw [hk] at c0 c1 c2 c3
    rw [o_eqn _ _ (by decide) (by omega)] at c0 c1 c2 c3
    omega
/-- what holds where machine m deals with a message of ballots -/
def HRB (S : SI) (m j : Nat) (w : RW) : Prop :=
  (∃ n, S 0 0 = Int32.ofNat n ∧ n ≤ 5) ∧ (∃ q, S 39 0 = Int32.ofNat q ∧ q ≤ 60) ∧ w 3 ≠ -1 ∧ (∃ f, w 1 = Int32.ofNat f ∧ f < 5) ∧ (S 35 (4 * m + j) = 0 ∨ S 35 (4 * m + j) = 1) ∧ (∃ g, S 31 (4 * m + j) ≠ -1 → S 33 (4 * m + j) = Int32.ofNat g ∧ g < 32) ∧ (∃ g, S 35 (4 * m + j) = 1 → S 36 (4 * m + j) = Int32.ofNat g ∧ g < 32) ∧ (S 31 (4 * m + j) ≠ -1 → -1 ≤ (S 34 (4 * m + j)).toInt)
theorem w_hearB (hr : RC S F (e1, 0, e3) X h) {m kd j : Nat} (hm : m < 5) (hj : j < 4) (hw2 : e3.1 2 = Int32.ofNat m) (hw6 : e3.1 6 = Int32.ofNat j) (hk : e3.1 0 = Int32.ofNat kd) (hk4 : 4 ≤ kd) (hk7 : kd ≤ 7) (H : HRB S m j e3.1) {u v : Option Value} (k : ∀ h', RC (hearC (S, F) m e3.1 e3.2).1 (hearC (S, F) m e3.1 e3.2).2 (e1, 0, e3) X h' → Q (.inl none) h') : WP (d + 4) mX1_hear 0 [some (.ref 132), some (.ref (hR h 1005 4)), u, v] [] h Q := by
  have hs := rcS hr
  have t := rd_told hr
  obtain ⟨⟨n, hn, hn5⟩, ⟨q, hq, hq60⟩, hw3, ⟨f, hf, hf5⟩, hz, ⟨g, hg⟩, ⟨g2, hg2⟩, h34⟩ := H
  have k4 : 4 ≤ e3.1 0 := by rw [hk, o_nle _ _ (by decide) (by omega)]; exact hk4
  unfold hearC at k
  dsimp only at k
  have z3 : ¬ e3.1 0 ≤ 3 := by rw [hk, o_len _ _ (by decide) (by omega)]; show ¬ kd ≤ 3; omega
  have z0 : ¬ e3.1 0 = 0 := by rw [hk, o_eqn _ _ (by decide) (by omega)]; show ¬ kd = 0; omega
  have z1 : ¬ e3.1 0 = 1 := by rw [hk, o_eqn _ _ (by decide) (by omega)]; show ¬ kd = 1; omega
  have z2 : ¬ e3.1 0 = 2 := by rw [hk, o_eqn _ _ (by decide) (by omega)]; show ¬ kd = 2; omega
  have z33 : ¬ e3.1 0 = 3 := by rw [hk, o_eqn _ _ (by decide) (by omega)]; show ¬ kd = 3; omega
  rw [if_neg z3, if_neg z0, if_neg z1, if_neg z2, if_neg z33] at k
  refine bX1_hear_0 ⟨st_K_132 hs, told_K hr, ?_⟩
  have e911 : hI h 911 (hR h 1005 4) = e3.1 6 := t.2.2.2.2.2.2.2.2.2.1 k4
  have e902 : hI h 902 (hR h 1005 4) = Int32.ofNat m := t.2.2.1.trans hw2
  rw [st_R_100_132 hs, st_K_3 hs, e902, e911, hw6, o_c _ (by omega), o_c _ (by omega), st_AR_3_e hs hm, st_R_803_150 hs hm, st_K_157 hs hm, st_AR_157_e hs hm hj, t.1]
  refine ⟨⟨by decide, by decide⟩, inA_o (st_L_3 hs) (by omega) (by decide), st_K_150 hs hm, ⟨by decide, by decide⟩, inA_o (st_L_157 hs hm) (by omega) (by decide), fun c => ⟨by decide, ?_⟩, fun c => ⟨by decide, ?_⟩, fun c => ⟨by decide, ?_⟩, fun c => ⟨by decide, ?_⟩, fun c => ?_⟩
  · have c' : e3.1 0 = 4 := c
    rw [if_pos c'] at k
    refine w_hearPrepare hr hm hj hq hq60 c' hw2 hw6 ?_
    intro h2 _ hr2
    rw [KK_ret]
    exact bX1_hear_62 (k h2 hr2)
  · have c' : e3.1 0 = 5 := c
    rw [if_neg (by rw [c']; decide), if_pos c'] at k
    refine w_hearPromised hr hm hj hn hn5 hq hq60 c' hw6 hw3 hf hf5 hz hg h34 ?_
    intro h2 _ hr2
    rw [KK_ret]
    exact bX1_hear_72 (k h2 hr2)
  · have c' : e3.1 0 = 6 := c
    rw [if_neg (by rw [c']; decide), if_neg (by rw [c']; decide), if_pos c'] at k
    refine w_hearAccept hr hm hj hq hq60 c' hw2 hw6 ?_
    intro h2 _ hr2
    rw [KK_ret]
    exact bX1_hear_81 (k h2 hr2)
  · have c' : e3.1 0 = 7 := c
    rw [if_neg (by rw [c']; decide), if_neg (by rw [c']; decide), if_neg (by rw [c']; decide)] at k
    refine w_hearAccepted hr hm hj hw6 hw3 hf hf5 hz hg2 ?_
    intro h2 hr2
    rw [KK_ret]
    exact bX1_hear_90 (k h2 hr2)
  · have c0 : ¬ e3.1 0 = 4 := c.1
    have c1 : ¬ e3.1 0 = 5 := c.2.1
    have c2 : ¬ e3.1 0 = 6 := c.2.2.1
    have c3 : ¬ e3.1 0 = 7 := c.2.2.2
    rw [hk] at c0 c1 c2 c3
    rw [o_eqn _ _ (by decide) (by omega)] at c0 c1 c2 c3
    omega
/-- all that the first j machines answer -/
def ansA (na : Nat) : Nat → SI → SI
  | 0, S => S
  | j + 1, S => if ansA na j S 11 j = 2 then ansS (ansA na j S) j na else ansA na j S
theorem ansA_ne {na j : Nat} {s : Nat} (hs : s ≠ 46) : ansA na j S s = S s := by
  induction j with
  | zero => rfl
  | succ j ih =>
    unfold ansA
    split
    · rw [ansS_ne hs]; exact ih
    · exact ih
theorem w_del_101 {na : Nat} (hn : S 0 0 = Int32.ofNat n) (hn5 : n ≤ 5) (ha : S 47 0 = Int32.ofNat na) (ha14 : na ≤ 14) (hz : ∀ a, a < na → S 41 a = 0 ∨ S 41 a = 1) (hl : ∀ m, m < n → 0 ≤ (S 12 m).toInt ∧ (S 12 m).toInt ≤ 30) {x : Int32} {b : Nat} (k : ∀ h', RC (ansA na n S) F (0, 0, e3) X h' → Q (.inl (some (.int (S 40 0)))) h') :
    ∀ (m j : Nat) (h : HP), j + m = n → RC (ansA na j S) F (0, 0, e3) X h → WP (d + 2) mX11_deliver 101 [some (.ref 2), some (.int x), some (.ref b), some (.int (Int32.ofNat j))] [] h Q := by
  intro m
  induction m with
  | zero =>
    intro j h hj hr
    obtain rfl : j = n := by omega
    have hs := rcS hr
    refine bX11_deliver_101 ⟨st_K_2 hs, ?_⟩
    rw [st_R_1101_2 hs, rd_n hr, ansA_ne (by decide), hn, o_le _ _ (by omega) (by omega), rd_sent hr, ansA_ne (by decide)]
    refine ⟨st_K_4 hs, fun _ => ?_, fun c => absurd (Nat.le_refl _) c⟩
    have := k h hr
    show Q (.inl (some (.int (S 40 0 + 0)))) h
    rw [Int32.add_zero]
    exact this
  | succ m ih =>
    intro j h hj hr
    have hs := rcS hr
    refine bX11_deliver_101 ⟨st_K_2 hs, ?_⟩
    rw [st_R_1101_2 hs, rd_n hr, ansA_ne (by decide), hn, o_le _ _ (by omega) (by omega), st_R_1100_2 hs, o_c _ (by omega), st_AR_3_e hs (by omega), st_K_3 hs, st_R_1104_2 hs]
    refine ⟨st_K_4 hs, fun c => by omega, fun _ => ⟨⟨by decide, by decide⟩, inA_o (st_L_3 hs) (by omega) (by decide), by decide, st_K_133 hs, w_answerWrites hr (by omega) (n := na) ?_ ?_ ?_ ha14 ?_ ?_⟩⟩
    · rw [ansA_ne (by decide)]; exact (hl j (by omega)).1
    · rw [ansA_ne (by decide)]; exact (hl j (by omega)).2
    · rw [ansA_ne (by decide)]; exact ha
    · intro a h1; rw [ansA_ne (by decide)]; exact hz a h1
    · intro h2 hr2
      rw [KK_ret]
      refine bX11_deliver_125 ?_
      rw [o_addn]
      exact ih (j + 1) h2 (by omega) hr2
theorem rc_sent0 {r : Int32 × RW × UInt32} (hr : RC S F (e1, r) X h) : RC (u2 S 40 0 0) F (0, r) X (sI h 1002 4 0) := by
  obtain ⟨hs, hrow, hm, hl, hle, hc, hn, hh, hg⟩ := hr
  exact ⟨STR_sI (by decide) hs, hrow, hm, hl, hle, hc, ⟨hn.1, hn.2.1, by show hI (sI h 1002 4 0) 1002 4 = u2 S 40 0 0 40 0 + 0; rw [u2_eq, hI_sI, if_pos ⟨rfl, rfl⟩]; rfl, hn.2.2.2⟩, hh, hg⟩
theorem rc_49 (hr : RC S F e X h) (hS : ∀ s k, s ≠ 49 → S' s k = S s k) : RC S' F e X h := by
  have e : S' = fun s k => if s = 49 then S' 49 k else S s k := by
    funext s k
    by_cases c : s = 49
    · rw [if_pos c, c]
    · rw [if_neg c]; exact hS s k c
  rw [e]
  obtain ⟨hs, hrow, hm, hl, hle, hc, hn, hh, hg⟩ := hr
  exact ⟨hs, hrow, hm, hl, hle, hc, hn, hh, hg⟩
/-- what a delivery begins with -/
def delS (S : SI) (p : Nat) : SI := leaveS (takeS (u2 S 40 0 0) p) p
/-- a delivery in the class's way -/
def delivC (P : PT) (p n na : Nat) : PT :=
  let w : RW := fun j => P.1 37 (24 * p + j)
  let P1 := hearC (delS P.1 p, leaveF P.1 P.2 p) (nt (w 2)) w (P.2 38 p)
  (ansA na n P1.1, P1.2)
theorem delS_eq (p : Nat) {s : Nat} (hs : s ≠ 49) (k : Nat) : delS S p s k = u2 (leaveS S p) 40 0 0 s k := by
  have e1 : ∀ q, (if 37 = 49 ∧ q < 24 then u2 S 40 0 0 37 (24 * p + q) else u2 S 40 0 0 37 q) = S 37 q := fun q => by
    rw [if_neg (by omega), u2_ne (by omega)]
  have e2 : ∀ q, (if 39 = 49 ∧ q < 24 then u2 S 40 0 0 37 (24 * p + q) else u2 S 40 0 0 39 q) = S 39 q := fun q => by
    rw [if_neg (by omega), u2_ne (by omega)]
  by_cases c : s = 40 ∧ k = 0
  · obtain ⟨rfl, rfl⟩ := c
    rw [u2_eq]
    unfold delS leaveS takeS
    rw [if_neg (by omega), if_neg (by omega), if_neg (by omega), u2_eq]
  · have e0 : u2 (leaveS S p) 40 0 0 s k = leaveS S p s k := u2_ne (by omega)
    rw [e0]
    unfold delS leaveS takeS
    simp only [e1, e2]
    by_cases c1 : s = 37 ∧ (24 * p ≤ k ∧ k < 24 * (nt (S 39 0) - 1))
    · rw [if_pos c1, if_pos c1]
    · rw [if_neg c1, if_neg c1]
      by_cases c2 : s = 39 ∧ k = 0
      · rw [if_pos c2, if_pos c2]
      · rw [if_neg c2, if_neg c2, if_neg (by omega), u2_ne (by omega)]
/-- a message of terms, or of ballots, and what holds where it is dealt with -/
def HRK (S : SI) (F : SF) (w : RW) (c : UInt32) : Prop := ∃ m f kd, w 2 = Int32.ofNat m ∧ w 1 = Int32.ofNat f ∧ w 0 = Int32.ofNat kd ∧ m < 5 ∧ f < 5 ∧ kd ≤ 7 ∧ (kd ≤ 3 → HRL S F m w c) ∧ (4 ≤ kd → ∃ j, j < 4 ∧ w 6 = Int32.ofNat j ∧ HRB S m j w)
theorem c_deliver {q na : Nat} (hr : RC S F (e1, 0, e3) X h) (hn : S 0 0 = Int32.ofNat n) (hn5 : n ≤ 5) (hq : S 39 0 = Int32.ofNat q) (hq60 : q ≤ 60) (ha : S 47 0 = Int32.ofNat na) (ha14 : na ≤ 14) (hz : ∀ a, a < na → S 41 a = 0 ∨ S 41 a = 1) (hcz : ∀ k, k < 25 → S 6 k = 0 ∨ S 6 k = 1)
    (hK : ∀ p, p < q → HRK (delS (stepS S) p) (leaveF (stepS S) F p) (fun j => S 37 (24 * p + j)) (F 38 p))
    (hP : ∀ p, p < q → (hearC (delS (stepS S) p, leaveF (stepS S) F p) (nt (S 37 (24 * p + 2))) (fun j => S 37 (24 * p + j)) (F 38 p)).1 0 0 = Int32.ofNat n ∧ (hearC (delS (stepS S) p, leaveF (stepS S) F p) (nt (S 37 (24 * p + 2))) (fun j => S 37 (24 * p + j)) (F 38 p)).1 47 0 = Int32.ofNat na ∧ (∀ a, a < na → (hearC (delS (stepS S) p, leaveF (stepS S) F p) (nt (S 37 (24 * p + 2))) (fun j => S 37 (24 * p + j)) (F 38 p)).1 41 a = 0 ∨ (hearC (delS (stepS S) p, leaveF (stepS S) F p) (nt (S 37 (24 * p + 2))) (fun j => S 37 (24 * p + j)) (F 38 p)).1 41 a = 1) ∧ ∀ m, m < n → 0 ≤ ((hearC (delS (stepS S) p, leaveF (stepS S) F p) (nt (S 37 (24 * p + 2))) (fun j => S 37 (24 * p + j)) (F 38 p)).1 12 m).toInt ∧ ((hearC (delS (stepS S) p, leaveF (stepS S) F p) (nt (S 37 (24 * p + 2))) (fun j => S 37 (24 * p + j)) (F 38 p)).1 12 m).toInt ≤ 30)
    {x : Int32} {u1 u2' : Option Value} (k3 : ¬ (0 ≤ x.toInt ∧ x.toInt < q) → ∀ h', RC S F (e1, 0, e3) (thX X) h' → Q (.inr 3) h') (k2 : ∀ p, x = Int32.ofNat p → p < q → ¬ (¬ S 5 (nt (S 37 (24 * p + 2))) = 0 ∧ S 6 (5 * nt (S 37 (24 * p + 1)) + nt (S 37 (24 * p + 2))) = 0) → ∀ h', RC S F (e1, 0, e3) (thX X) h' → Q (.inr 2) h') (k : ∀ p, x = Int32.ofNat p → p < q → (¬ S 5 (nt (S 37 (24 * p + 2))) = 0 ∧ S 6 (5 * nt (S 37 (24 * p + 1)) + nt (S 37 (24 * p + 2))) = 0) → ∀ h' e3', RC (delivC (stepS S, F) p n na).1 (delivC (stepS S, F) p n na).2 (0, 0, e3') X h' → Q (.inl (some (.int ((delivC (stepS S, F) p n na).1 40 0)))) h') : WP (d + 7) mX11_deliver 0 [some (.ref 2), some (.int x), u1, u2'] [] h Q := by
  have hs := rcS hr
  refine bX11_deliver_0 ⟨by decide, st_K_2 hs, w_needMessage hr hq hq60 (fun c => KK_exc rfl rfl rfl (k3 c _ (rc_thr hr))) ?_⟩
  intro p hp hpq
  rw [KK_ret]
  obtain ⟨m, f, kd, hw2, hw1, hw0, hm5, hf5, hkd, hKL, hKB⟩ := hK p hpq
  have hb := (rcR hr).1 p (by omega)
  have rb := (rcR hr).2.2.2.2 (hAR h 5 p) (Or.inl hb)
  have mg := (rcN hr).2.2.2.2.1 p (by omega) (by rw [hq, o_i _ (by omega)]; omega)
  have w2' : S 37 (24 * p + 2) = Int32.ofNat m := hw2
  have w1' : S 37 (24 * p + 1) = Int32.ofNat f := hw1
  have kk2 := k2 p hp hpq
  have kk := k p hp hpq
  have kP := hP p hpq
  rw [w2', w1', nt_of rfl (by omega), nt_of rfl (by omega)] at kk2 kk
  rw [w2', nt_of rfl (by omega)] at kP
  refine bX11_deliver_5 ⟨st_K_2 hs, rb.1, ?_⟩
  have e902 : hI h 902 (hAR h 5 p) = Int32.ofNat m := mg.2.2.1.trans w2'
  have e901 : hI h 901 (hAR h 5 p) = Int32.ofNat f := mg.2.1.trans w1'
  rw [st_R_1100_2 hs, st_K_3 hs, e902, e901, o_c _ (by omega), st_AR_3_e hs hm5, rd_up hr hm5, st_R_1101_2 hs]
  refine ⟨⟨by decide, by decide⟩, inA_o (st_L_3 hs) (by omega) (by decide), st_K_150 hs hm5, fun c => kk2 (fun w => w.1 c) _ (rc_thr hr), fun c => ⟨by decide, st_K_4 hs, w_isCut hr hf5 hm5 (hcz _ (by omega)) ?_⟩⟩
  rw [KK_ret]
  refine bX11_deliver_36 ?_
  rw [st_R_1104_2 hs]
  refine ⟨fun c2 => ⟨st_K_2 hs, by decide, st_K_133 hs, w_goOn hr ?_⟩, fun c2 => kk2 (fun w => c2 w.2) _ (rc_thr hr)⟩
  intro h1 hr1 er1 ear1
  have hs1 := rcS hr1
  rw [KK_ret]
  have kf := kk ⟨c, c2⟩
  refine bX11_deliver_56 ?_
  subst hp
  rw [st_R_1101_2 hs1]
  refine ⟨st_K_2 hs1, by decide, st_K_4 hs1, w_takeOut hr1 (n := q) hq hq60 hpq ?_⟩
  intro h2 hr2 er2
  have hs2 := rcS hr2
  rw [KK_ret]
  have er2' : hAR h 5 p = hR h2 1005 4 := by rw [er2, ear1]
  rw [er2']
  refine bX11_deliver_64 ?_
  rw [st_R_1101_2 hs2, st_R_1103_2 hs2, st_R_1102_2 hs2]
  have hr3 : RC (delS (stepS S) p) (leaveF (stepS S) F p) (0, 0, (fun j => S 37 (24 * p + j)), F 38 p) X (sI h2 1002 4 0) := rc_49 (rc_sent0 hr2) (fun s k hs => delS_eq p hs k)
  have hs3 := rcS hr3
  have t3 := rd_told hr3
  have e900 : hI (sI h2 1002 4 0) 900 (hR h2 1005 4) = Int32.ofNat kd := t3.1.trans hw0
  rw [e900, o_nlt _ _ (by decide) (by omega)]
  have fin : ∀ h4, RC (hearC (delS (stepS S) p, leaveF (stepS S) F p) m (fun j => S 37 (24 * p + j)) (F 38 p)).1 (hearC (delS (stepS S) p, leaveF (stepS S) F p) m (fun j => S 37 (24 * p + j)) (F 38 p)).2 (0, 0, (fun j => S 37 (24 * p + j)), F 38 p) X h4 → WP (d + 7) mX11_deliver 99 [some (.ref 2), some (.int (Int32.ofNat p)), some (.ref (hR h2 1005 4)), u2'] [] h4 Q := by
    intro h4 hr4
    refine bX11_deliver_99 (w_del_101 (S := (hearC (delS (stepS S) p, leaveF (stepS S) F p) m (fun j => S 37 (24 * p + j)) (F 38 p)).1) kP.1 hn5 kP.2.1 ha14 kP.2.2.1 kP.2.2.2 ?_ n 0 h4 (Nat.zero_add _) hr4)
    intro h5 hr5
    have e : delivC (stepS S, F) p n na = (ansA na n (hearC (delS (stepS S) p, leaveF (stepS S) F p) m (fun j => S 37 (24 * p + j)) (F 38 p)).1, (hearC (delS (stepS S) p, leaveF (stepS S) F p) m (fun j => S 37 (24 * p + j)) (F 38 p)).2) := by
      unfold delivC
      dsimp only
      have : nt (stepS S 37 (24 * p + 2)) = m := nt_of (x := S 37 (24 * p + 2)) w2' (by omega)
      rw [this]
      rfl
    have q := kf h5 ((fun j => S 37 (24 * p + j)), F 38 p)
    rw [e] at q
    have q2 := q hr5
    have e40 : ansA na n (hearC (delS (stepS S) p, leaveF (stepS S) F p) m (fun j => S 37 (24 * p + j)) (F 38 p)).1 40 0 = (hearC (delS (stepS S) p, leaveF (stepS S) F p) m (fun j => S 37 (24 * p + j)) (F 38 p)).1 40 0 := by rw [ansA_ne (by decide)]
    rw [← e40]
    exact q2
  refine ⟨st_K_2 hs2, st_K_4 hs2, told_K hr2, fun c3 => ⟨by decide, st_K_132 hs2, ?_⟩, fun c3 => ⟨by decide, st_K_131 hs2, ?_⟩⟩
  · obtain ⟨j, hj, hw6, HB⟩ := hKB (by show 4 ≤ kd; have : (3 : Nat) < kd := c3; omega)
    refine w_hearB hr3 hm5 hj hw2 hw6 hw0 (by have : (3 : Nat) < kd := c3; omega) hkd HB ?_
    intro h4 hr4
    rw [KK_ret]
    exact fin h4 hr4
  · have c4 : kd ≤ 3 := by have : ¬ (3 : Nat) < kd := c3; omega
    refine w_hearL hr3 hm5 hw2 hw0 c4 (hKL c4) ?_
    intro h4 hr4
    rw [KK_ret]
    exact bX11_deliver_88 (fin h4 hr4)
end QHD
