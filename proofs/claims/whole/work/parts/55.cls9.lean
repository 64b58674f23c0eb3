section HEARO
variable {S : SI} {F : SF} {e : EX} {X : MX} {h : HP} {d : Nat} {Q : Out → HP → Prop} {i : Nat} {e1 : Int32} {e3 : RW × UInt32}
theorem cmtC_ne {m : Nat} {s : Nat} (hs : s ≠ 13) (x k : Nat) : cmtC S m x s k = S s k := by
  induction x with
  | zero => rfl
  | succ x ih =>
    unfold cmtC
    split
    · rfl
    · split
      · split
        · exact u2_ne (Or.inl hs)
        · rfl
      · exact ih
/-- an ACK as the class takes it -/
def ackedC (P : PT) (m : Nat) (w : RW) (c : UInt32) : PT := if ¬ P.1 11 m = 2 ∨ ¬ w 3 = P.1 9 m then P else
  if w 7 = 0 then (u2 P.1 19 (5 * m + nt (w 1)) (w 4), P.2) else
  let S1 := sameS P.1 m w
  let S2 := cmtC S1 m (nt (S1 12 m))
  leaseC (u2 S2 21 (5 * m + nt (w 1)) 1, u2 P.2 22 (5 * m + nt (w 1)) (tkF S2 P.2 m (nt (w 1)) c)) m
theorem sameS_ne {m : Nat} {w : RW} {s : Nat} (hs : s ≠ 19 ∧ s ≠ 20) (k : Nat) : sameS S m w s k = S s k := by
  unfold sameS
  split
  · rw [u2_ne (Or.inl hs.1), u2_ne (Or.inl hs.2)]
  · rfl
theorem w_hearAck (hr : RC S F (e1, 0, e3) X h) (hi : i < 5) (hw0 : e3.1 0 = 3) {f : Nat} (hf : e3.1 1 = Int32.ofNat f) (hf5 : f < 5) (hl0 : 0 ≤ (S 12 i).toInt) (h30 : (S 12 i).toInt ≤ 30) (hc0 : 0 ≤ (S 13 i).toInt) (hz : Z5 (fun o => S 21 (5 * i + o))) (n1 : nn32 (FP.fsub FP.fconst1 (F 3 0)) = true) (n2 : nn32 (FP.fmul (F 2 0) (FP.fsub FP.fconst1 (F 3 0))) = true)
    (n3 : ∀ S2, S2 21 = S 21 → S2 0 = S 0 → nn32 (FP.fadd (clockC (u2 S2 21 (5 * i + f) 1) (u2 F 22 (5 * i + f) (tkF S2 F i f e3.2)) i (mostI S - 1) 5) (FP.fmul (F 2 0) (FP.fsub FP.fconst1 (F 3 0)))) = true) (k : ∀ h', RC (ackedC (S, F) i e3.1 e3.2).1 (ackedC (S, F) i e3.1 e3.2).2 (e1, 0, e3) X h' → Q (.inl none) h') : WP (d + 5) mX6_hearAck 0 [some (.ref 131), some (.ref (150 + 12 * i)), some (.ref (hR h 1005 4))] [] h Q := by
  have hs := rcS hr
  have t := rd_told hr
  have hnf : nt (e3.1 1) = f := nt_of hf (by omega)
  unfold ackedC at k
  refine bX6_hearAck_0 ⟨st_K_150 hs hi, ?_⟩
  rw [rd_role hr hi, t.2.2.2.1, rd_term hr hi, t.2.2.2.2.2.2.2.2.1 (Or.inr hw0), st_R_802_150 hs hi, t.2.1, t.2.2.2.2.2.1 (Or.inr (Or.inr hw0)), st_R_500_153 hs hi]
  refine ⟨fun c => ?_, fun c => ⟨told_K hr, fun c2 => ⟨fun c3 => ⟨by omega, st_K_153 hs hi, ?_⟩, fun c3 => ?_⟩, fun c2 => ?_⟩⟩
  · rw [if_pos (Or.inl c)] at k; exact k h hr
  · rw [if_neg (fun q => q.elim c (fun q => q c2)), if_neg c3] at k
    show WP _ _ _ [_, some (.int (e3.1 1)), _] _ _ _
    rw [hf]
    refine w_learnSame hr hi hf5 ?_
    intro h1 hr1 er1 ear1
    rw [KK_ret]
    have es : (if S 20 (5 * i + f) < (e1, 0, e3).2.2.1 4 then u2 (u2 S 20 (5 * i + f) ((e1, 0, e3).2.2.1 4)) 19 (5 * i + f) ((e1, 0, e3).2.2.1 4) else S) = sameS S i e3.1 := by
      unfold sameS
      rw [hnf]
    rw [es] at hr1
    have hs1 := rcS hr1
    refine bX6_hearAck_59 ⟨by decide, st_K_131 hs1, ?_⟩
    have e12 : sameS S i e3.1 12 i = S 12 i := sameS_ne (by decide) i
    have e13 : sameS S i e3.1 13 i = S 13 i := sameS_ne (by decide) i
    refine w_commit hr1 hi (by rw [e12]; exact hl0) (by rw [e12]; exact h30) (by rw [e13]; exact hc0) ?_
    intro h2 hr2 er2
    rw [KK_ret]
    have hs2 := rcS hr2
    have er : hR h 1005 4 = hR h2 1005 4 := by rw [er2, er1]
    rw [er]
    have t2 := rd_told hr2
    have e21 : ∀ q, cmtC (sameS S i e3.1) i (nt (sameS S i e3.1 12 i)) 21 q = S 21 q := fun q => (cmtC_ne (by decide) _ _).trans (sameS_ne (by decide) _)
    have e0 : cmtC (sameS S i e3.1) i (nt (sameS S i e3.1 12 i)) 0 = S 0 := funext fun q => (cmtC_ne (by decide) _ _).trans (sameS_ne (by decide) _)
    have hz2 : Z5 (fun o => cmtC (sameS S i e3.1) i (nt (sameS S i e3.1 12 i)) 21 (5 * i + o)) := fun o ho => by
      show cmtC (sameS S i e3.1) i (nt (sameS S i e3.1 12 i)) 21 (5 * i + o) = 0 ∨ cmtC (sameS S i e3.1) i (nt (sameS S i e3.1 12 i)) 21 (5 * i + o) = 1
      rw [e21]
      exact hz o ho
    refine bX6_hearAck_64 ⟨st_K_150 hs2 hi, told_K hr2, ?_⟩
    rw [st_R_802_150 hs2 hi, t2.2.1, t2.2.2.2.2.2.2.2.2.2.2.2.2.1 (Or.inr hw0)]
    show _ ∧ _ ∧ WP _ _ _ [_, some (.int (e3.1 1)), _] _ _ _
    rw [hf]
    refine ⟨by omega, st_K_153 hs2 hi, w_learnClock hr2 hi hf5 hz2 ?_⟩
    intro h3 hr3 er3 ear3
    rw [KK_ret]
    refine bX6_hearAck_79 ⟨by decide, st_K_131 (rcS hr3), ?_⟩
    rw [hnf] at k
    have hmo : mostI (u2 (cmtC (sameS S i e3.1) i (nt (sameS S i e3.1 12 i))) 21 (5 * i + f) 1) = mostI S := by
      unfold mostI
      rw [u2_ne (by omega), e0]
    have n3' := n3 _ (funext e21) e0
    rw [← hmo] at n3'
    refine w_renewLease hr3 hi ?_ n1 n2 n3' ?_
    · intro o ho
      by_cases c5 : o = f
      · subst c5; exact Or.inr u2_eq
      · have : u2 (cmtC (sameS S i e3.1) i (nt (sameS S i e3.1 12 i))) 21 (5 * i + f) 1 21 (5 * i + o) = S 21 (5 * i + o) := (u2_ne (by omega)).trans (e21 _)
        show u2 (cmtC (sameS S i e3.1) i (nt (sameS S i e3.1 12 i))) 21 (5 * i + f) 1 21 (5 * i + o) = 0 ∨ u2 (cmtC (sameS S i e3.1) i (nt (sameS S i e3.1 12 i))) 21 (5 * i + f) 1 21 (5 * i + o) = 1
        rw [this]
        exact hz o ho
    · intro h4 hr4
      rw [KK_ret]
      exact bX6_hearAck_84 (k h4 hr4)
  · rw [if_neg (fun q => q.elim c (fun q => q c2)), if_pos (Classical.not_not.mp c3), hnf] at k
    show _ ∧ _ ∧ inA h _ (e3.1 1) = true ∧ Q _ (sAI h _ (e3.1 1).toNatClampNeg (e3.1 4))
    rw [hf, o_c _ (by omega)]
    exact ⟨st_K_153 hs hi, st_K_154 hs hi, inA_o (st_L_154 hs hi) (by omega) (by decide), k _ (rc_supposed hi hf5 hr)⟩
  · rw [if_pos (Or.inr c2)] at k; exact k h hr
end HEARO
/-! to all others -/
theorem pushS_ne {S : SI} {w : RW} {s : Nat} (h37 : s ≠ 37) (h39 : s ≠ 39) (k : Nat) : pushS S w s k = S s k := by
  unfold pushS
  rw [if_neg (fun q => h37 q.1), if_neg (fun q => h39 q.1)]
theorem snd_ne {P : PT} {w : RW} {c : UInt32} {s : Nat} (h37 : s ≠ 37) (h39 : s ≠ 39) (h40 : s ≠ 40) (k : Nat) : (snd P w c).1 s k = P.1 s k := by
  show pushS (sentS P.1) w s k = _
  rw [pushS_ne h37 h39]
  exact u2_ne (Or.inl h40)
theorem snd_neF {P : PT} {w : RW} {c : UInt32} {s : Nat} (h38 : s ≠ 38) (k : Nat) : (snd P w c).2 s k = P.2 s k := by
  show pushF P.1 P.2 c s k = _
  unfold pushF
  rw [if_neg (fun q => h38 q.1)]
theorem snd_cnt {P : PT} {w : RW} {c : UInt32} {n : Nat} (hn : P.1 39 0 = Int32.ofNat n) (h60 : n ≤ 60) : (snd P w c).1 39 0 = Int32.ofNat (min 60 (n + 1)) := by
  show pushS (sentS P.1) w 39 0 = _
  rw [push_39]
  show (if nt (P.1 39 0) < 60 then P.1 39 0 + 1 else P.1 39 0) = _
  rw [nt_of hn (by omega), hn]
  split
  · rw [o_addn]; congr 1; omega
  · congr 1; omega
theorem toAll_ne {g : Nat → RW} {c : UInt32} {m : Nat} {S : SI} {F : SF} {s : Nat} (h37 : s ≠ 37) (h39 : s ≠ 39) (h40 : s ≠ 40) (j k : Nat) : (toAll g c m j (S, F)).1 s k = S s k := by
  induction j with
  | zero => rfl
  | succ j ih =>
    unfold toAll
    split
    · exact ih
    · rw [snd_ne h37 h39 h40]; exact ih
theorem toAll_neF {g : Nat → RW} {c : UInt32} {m : Nat} {S : SI} {F : SF} {s : Nat} (h38 : s ≠ 38) (j k : Nat) : (toAll g c m j (S, F)).2 s k = F s k := by
  induction j with
  | zero => rfl
  | succ j ih =>
    unfold toAll
    split
    · exact ih
    · rw [snd_neF h38]; exact ih
theorem toAll_cnt {g : Nat → RW} {c : UInt32} {m : Nat} {P : PT} {n : Nat} (hn : P.1 39 0 = Int32.ofNat n) (h60 : n ≤ 60) (j : Nat) : ∃ n', (toAll g c m j P).1 39 0 = Int32.ofNat n' ∧ n' ≤ 60 := by
  induction j with
  | zero => exact ⟨n, hn, h60⟩
  | succ j ih =>
    obtain ⟨n', h1, h2⟩ := ih
    unfold toAll
    split
    · exact ⟨n', h1, h2⟩
    · exact ⟨_, snd_cnt h1 h2, Nat.min_le_left _ _⟩
theorem u2_self {α : Type} {m : Nat → Nat → α} {f a : Nat} {v : α} (h : m f a = v) : u2 m f a v = m := by
  funext s k
  unfold u2
  split
  · rename_i c; rw [c.1, c.2, h]
  · rfl
section STND
variable {S : SI} {F : SF} {e : EX} {X : MX} {h : HP} {d : Nat} {Q : Out → HP → Prop} {i : Nat} {e3 : RW × UInt32} {e1 : Int32}
theorem w_stand_35 (hi : i < 5) {n : Nat} (hn : S 0 0 = Int32.ofNat n) (hn5 : n ≤ 5) (h30 : (S 12 i).toInt ≤ 30) {q : Nat} (hq : S 39 0 = Int32.ofNat q) (hq60 : q ≤ 60) (k : ∀ h' (_ : Int32), RC (toAll (askW S i) FP.fconst0 i n (S, F)).1 (toAll (askW S i) FP.fconst0 i n (S, F)).2 (e1, 0, e3) X h' → Q (.inl none) h') :
    ∀ (m j : Nat) (h : HP) (u : Option Value), j + m = n → RC (toAll (askW S i) FP.fconst0 i j (S, F)).1 (toAll (askW S i) FP.fconst0 i j (S, F)).2 (e1, 0, e3) X h → WP (d + 2) mX6_letStand 35 [some (.ref 131), some (.ref (150 + 12 * i)), some (.int (Int32.ofNat j)), u] [] h Q := by
  intro m
  induction m with
  | zero =>
    intro j h u hj hr
    obtain rfl : j = n := by omega
    have hs := rcS hr
    refine bX6_letStand_35 ⟨st_K_131 hs, ?_⟩
    rw [st_R_601_131 hs, rd_n hr, toAll_ne (by decide) (by decide) (by decide), hn, o_le _ _ (by omega) (by omega)]
    exact ⟨st_K_4 hs, fun _ => k h e1 hr, fun c => absurd (Nat.le_refl _) c⟩
  | succ m ih =>
    intro j h u hj hr
    have hs := rcS hr
    obtain ⟨q', hq', hq2⟩ := toAll_cnt (P := (S, F)) (g := askW S i) (c := FP.fconst0) (m := i) hq hq60 j
    refine bX6_letStand_35 ⟨st_K_131 hs, ?_⟩
    rw [st_R_601_131 hs, rd_n hr, toAll_ne (by decide) (by decide) (by decide), hn, o_le _ _ (by omega) (by omega), st_I_800_150 hs hi, o_eq _ _ (by omega) (by omega), rd_term hr hi, o_addn]
    refine ⟨st_K_4 hs, fun c => by omega, fun _ => ⟨st_K_150 hs hi, fun c => ?_, fun c => ⟨by decide, w_send hr (by rw [hq', o_i _ (by omega)]; omega) (by rw [hq', o_i _ (by omega)]; omega) ?_⟩⟩⟩
    · refine ih (j + 1) h u (by omega) ?_
      unfold toAll
      rw [if_pos c]
      exact hr
    · intro h' a hr' hf' ha ear er hm
      rw [KK_ret]
      obtain ⟨m0, m1, m2, m3, m4, m5, m6, m7, m8, m10, m11, m12, m13⟩ := hm
      have hs' := rcS hr'
      refine bX6_letStand_71 ⟨st_K_150 hs' hi, ?_⟩
      rw [st_R_801_150 hs' hi, rd_len hr' hi, toAll_ne (by decide) (by decide) (by decide)]
      have hr2 := rc_m904 (v := S 12 i) hr' hf'
      have e2 : hI (sI h' 904 a (S 12 i)) 701 (151 + 12 * i) = S 12 i := by
        rw [rd_len hr2 hi, toAll_ne (by decide) (by decide) (by decide)]
      rw [e2]
      refine ⟨st_K_151 hs' hi, fr_K hr' hf', by omega, w_termAt (rcS hr2) (rcL hr2) hi (by rw [toAll_ne (by decide) (by decide) (by decide)]; exact h30) ?_⟩
      rw [KK_ret]
      refine bX6_letStand_98 ⟨fr_K hr2 hf'.sI, ?_⟩
      rw [o_addn]
      have et : tmAt (toAll (askW S i) FP.fconst0 i j (S, F)).1 i (S 12 i) = tmAt S i (S 12 i) := by
        unfold tmAt
        rw [toAll_ne (by decide) (by decide) (by decide), toAll_ne (by decide) (by decide) (by decide)]
      rw [et]
      refine ih (j + 1) _ _ (by omega) ?_
      have q := rc_fin (w := askW S i j) (c := FP.fconst0) (by rw [hq', o_i _ (by omega)]; omega) (by rw [hq', o_i _ (by omega)]; omega) (rc_m905 (v := tmAt S i (S 12 i)) hr2 hf'.sI) ha (MSGw_mk ?_ ?_ ?_ ?_ ?_ ?_ ?_ ?_ ?_ ?_ ?_ ?_ ?_ ?_)
      · unfold toAll
        rw [if_neg c]
        exact q
      all_goals have e9 : (toAll (askW S i) FP.fconst0 i j (S, F)).1 9 i = S 9 i := toAll_ne (by decide) (by decide) (by decide) j i
      all_goals simp [hI_sF, hI_sI, hF_sF, hF_sI, askW, wu, w4, m0, m1, m2, m3, m4, m5, m6, m7, m8, m10, m11, m12, m13, e9]
theorem w_letStand (hr : RC S F (e1, 0, e3) X h) (hi : i < 5) {n : Nat} (hn : S 0 0 = Int32.ofNat n) (hn5 : n ≤ 5) (h30 : (S 12 i).toInt ≤ 30) {q : Nat} (hq : S 39 0 = Int32.ofNat q) (hq60 : q ≤ 60) (h23 : S 23 i = 0) {u v : Option Value} (k : ∀ h' (_ : Int32), RC (standP (S, F) i n).1 (standP (S, F) i n).2 (e1, 0, e3) X h' → Q (.inl none) h') : WP (d + 2) mX6_letStand 0 [some (.ref 131), some (.ref (150 + 12 * i)), u, v] [] h Q := by
  have hs := rcS hr
  have es : standS S i = u2 (u2 (u2 (u2 S 9 i (S 9 i + 1)) 10 i (Int32.ofNat i)) 11 i 1) 18 i (bitI (Int32.ofNat i)) := by
    unfold standS
    rw [u2_self (m := u2 (u2 (u2 S 9 i (S 9 i + 1)) 10 i (Int32.ofNat i)) 11 i 1) (f := 23) (a := i) (v := 0) h23]
  refine bX6_letStand_0 ⟨st_K_150 hs hi, ?_⟩
  have r1 := rc_term (i := i) (v := S 9 i + 1) hr
  have r2 := rc_vote (i := i) (v := Int32.ofNat i) r1
  have r3 := rc_role (i := i) (v := 1) r2
  have r4 := rc_voters (i := i) (v := bitI (Int32.ofNat i)) r3
  rw [← es] at r4
  rw [rd_term hr hi, st_I_800_150 (rcS r1) hi, st_I_800_150 (rcS r3) hi]
  exact w_stand_35 (S := standS S i) hi hn hn5 h30 hq hq60 k n 0 _ v (Nat.zero_add _) r4
end STND
