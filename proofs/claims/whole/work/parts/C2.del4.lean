/-! ===== the invariant in a delivery: ACK ===== -/
section DEL4
variable {st n na : Nat} {g g' : YG} {pa pa' : Nat → ZA} {pv pv' : Nat → ZV} {S S' : SI} {F F' : SF} {m d : Nat} {w : RW} {c : UInt32}
/-- what a leader knows changes, nothing else -/
theorem INVw.lead (h : INVw st n na g pa pv S F) (he : ∀ r k, r ≠ 13 → r ≠ 19 → r ≠ 20 → r ≠ 21 → r ≠ 23 → S' r k = S r k) (hF : ∀ r k, r ≠ 22 → r ≠ 24 → F' r k = F r k) (h13 : ∀ i, i < 5 → ∀ l, S 12 i = Int32.ofNat l → l ≤ 30 → ∃ c, S' 13 i = Int32.ofNat c ∧ c ≤ l) (hci : ∀ i, i < n → yCI n g (nt (S' 13 i)) (tmS S i) (lgS S i)) (h23 : ∀ i, i < 5 → (S' 23 i = 0 ∨ S' 23 i = 1) ∧ (S' 23 i = 1 → S 11 i = 2)) (h21 : ∀ k, k < 25 → S' 21 k = 0 ∨ S' 21 k = 1) (hle : ∀ i, i < n → RLE n S g i → S 11 i = 2 → (∀ o, o < n → o ≠ i → ∃ p, S' 19 (5 * i + o) = Int32.ofNat p ∧ p ≤ (lgS S i).length) ∧ (∀ o, o < 5 → ∃ s, S' 20 (5 * i + o) = Int32.ofNat s ∧ s ≤ 30 ∧ (o = i ∨ n ≤ o → s = 0) ∧ (o < n → o ≠ i → s ≤ yA g o (tmS S i))) ∧ (∀ o, o < 5 → o = i ∨ n ≤ o → S' 21 (5 * i + o) = 0)) (h22 : ∀ k, k < 25 → S' 21 k = 1 → fpF (F' 22 k)) (h24 : ∀ i, i < 5 → S' 23 i = 1 → fpF (F' 24 i)) : INVw st n na g pa pv S' F' := by
  obtain ⟨⟨a1, a2, a3, s0, a4, a5⟩, hM, hC, ⟨hR1, hR2, hR3, hR4, hR5, hR6⟩, hP, hZ, hE, hH, hX, ⟨f1, f2, f3, f4, f5, f6⟩⟩ := id h
  have nf : ∀ r, r ≠ 13 → r ≠ 19 → r ≠ 20 → r ≠ 21 → r ≠ 23 → S' r = S r := fun r q1 q2 q3 q4 q5 => funext fun k => he r k q1 q2 q3 q4 q5
  have e1 : tmS S' = tmS S := by
    funext i
    unfold tmS
    rw [nf 9 (by decide) (by decide) (by decide) (by decide) (by decide)]
  have e2 : lgS S' = lgS S := lgS_same (nf 12 (by decide) (by decide) (by decide) (by decide) (by decide)) (nf 14 (by decide) (by decide) (by decide) (by decide) (by decide)) (nf 15 (by decide) (by decide) (by decide) (by decide) (by decide)) (nf 16 (by decide) (by decide) (by decide) (by decide) (by decide)) (nf 17 (by decide) (by decide) (by decide) (by decide) (by decide))
  refine h.mach (fun r k q _ _ _ _ => he r k (by omega) (by omega) (by omega) (by omega) (by omega)) (fun i hi => ?_) h21 ⟨by rw [e1, e2]; exact hR1, ?_, fun i hi => ?_, fun i hi => ?_, fun i hi => ?_, hR6⟩ hE ?_ ⟨?_, ?_, ?_, fun i hi => ?_, h22, h24⟩
  · obtain ⟨⟨l, b1, b2, _⟩, b3⟩ := hM i hi
    have c1 := h13 i hi l b1 b2
    unfold MAC
    rw [nf 12 (by decide) (by decide) (by decide) (by decide) (by decide), nf 9 (by decide) (by decide) (by decide) (by decide) (by decide), nf 5 (by decide) (by decide) (by decide) (by decide) (by decide), nf 11 (by decide) (by decide) (by decide) (by decide) (by decide), nf 18 (by decide) (by decide) (by decide) (by decide) (by decide)]
    exact ⟨⟨l, b1, b2, c1⟩, b3.1, b3.2.1, b3.2.2.1, (h23 i hi).1, (h23 i hi).2, b3.2.2.2.2.2⟩
  · unfold RVO
    rw [e1, nf 10 (by decide) (by decide) (by decide) (by decide) (by decide)]; exact hR2
  · unfold RCA
    rw [e1, e2, nf 11 (by decide) (by decide) (by decide) (by decide) (by decide), nf 18 (by decide) (by decide) (by decide) (by decide) (by decide)]; exact hR3 i hi
  · unfold RLE
    rw [e1, e2, nf 11 (by decide) (by decide) (by decide) (by decide) (by decide)]
    intro hi2
    exact ⟨(hR4 i hi hi2).1, hle i hi (hR4 i hi) hi2⟩
  · rw [e1, e2]; exact hci i hi
  · rw [e1]
    exact hX.same (he 39 0 (by decide) (by decide) (by decide) (by decide) (by decide)) (nf 37 (by decide) (by decide) (by decide) (by decide) (by decide)) (funext fun k => hF 38 k (by decide) (by decide))
  · rw [hF 1 0 (by decide) (by decide)]; exact f1
  · rw [hF 2 0 (by decide) (by decide)]; exact f2
  · rw [hF 3 0 (by decide) (by decide)]; exact f3
  · rw [hF 7 i (by decide) (by decide), hF 8 i (by decide) (by decide)]; exact f4 i hi
theorem know_s {x : Int32} {j : Nat} : knowN S m x (j + 1) = knowN S m x j + (if ¬ j = m ∧ x ≤ S 20 (5 * m + j) then 1 else 0) := rfl
/-- the others that know, and the machine itself -/
theorem know_cnt {x : Int32} : ∀ j, ycnt (fun i => decide (i = m) || decide (x ≤ S 20 (5 * m + i))) j = knowN S m x j + (if m < j then 1 else 0) := by
  intro j
  induction j with
  | zero => rw [if_neg (by omega)]; rfl
  | succ j ih =>
    have hq : (if (decide (j = m) || decide (x ≤ S 20 (5 * m + j))) = true then 1 else 0) + (if m < j then 1 else 0) = (if ¬ j = m ∧ x ≤ S 20 (5 * m + j) then 1 else 0) + (if m < j + 1 then 1 else 0) := by
      by_cases c : j = m
      · have h1 : (decide (j = m) || decide (x ≤ S 20 (5 * m + j))) = true := by rw [decide_eq_true c, Bool.true_or]
        have h2 : ¬ (¬ j = m ∧ x ≤ S 20 (5 * m + j)) := fun z => z.1 c
        rw [if_pos h1, if_neg h2, if_neg (show ¬ m < j by omega), if_pos (show m < j + 1 by omega)]
      · have e : (if m < j + 1 then 1 else 0) = (if m < j then 1 else 0) := by
          by_cases z : m < j
          · rw [if_pos z, if_pos (by omega)]
          · rw [if_neg z, if_neg (by omega)]
        rw [e]
        by_cases d : x ≤ S 20 (5 * m + j)
        · have h1 : (decide (j = m) || decide (x ≤ S 20 (5 * m + j))) = true := by rw [decide_eq_true d, Bool.or_true]
          have h2 : ¬ j = m ∧ x ≤ S 20 (5 * m + j) := ⟨c, d⟩
          rw [if_pos h1, if_pos h2]
        · have h1 : ¬ (decide (j = m) || decide (x ≤ S 20 (5 * m + j))) = true := by rw [decide_eq_false d, decide_eq_false c]; decide
          have h2 : ¬ (¬ j = m ∧ x ≤ S 20 (5 * m + j)) := fun z => d z.2
          rw [if_neg h1, if_neg h2]
    rw [ycnt_s, ih, know_s]
    omega
theorem rank_spec {k : Nat} : ∀ x, rankN S m n k x ≤ x ∧ (rankN S m n k x = 0 ∨ k ≤ knowN S m (Int32.ofNat (rankN S m n k x)) n) := by
  intro x
  induction x with
  | zero => exact ⟨Nat.le_refl _, Or.inl rfl⟩
  | succ x ih =>
    unfold rankN
    split
    · rename_i c
      exact ⟨Nat.le_refl _, Or.inr c⟩
    · exact ⟨by omega, ih.2⟩
theorem same_ne {r k : Nat} (h : r ≠ 19 ∧ r ≠ 20) : sameS S m w r k = S r k := sameS_ne h k
theorem inv_same (h : INVw st n na g pa pv S F) (hm : m < n) {f x : Nat} (hf : f < n) (hfm : f ≠ m) (hw1 : w 1 = Int32.ofNat f) (hw4 : w 4 = Int32.ofNat x) (hx30 : x ≤ 30) (hxa : x ≤ yA g f (tmS S m)) (hlead : S 11 m = 2) : INVw st n na g pa pv (sameS S m w) F := by
  obtain ⟨⟨a1, a2, a3, s0, a4, a5⟩, hM, hC, ⟨hR1, hR2, hR3, hR4, hR5, hR6⟩, hP, hZ, hE, hH, hX, ⟨f1, f2, f3, f4, f5, f6⟩⟩ := id h
  have n5 : n ≤ 5 := by omega
  have enf : nt (w 1) = f := nt_of hw1 (by omega)
  obtain ⟨hwm, _⟩ := hR4 m hm hlead
  have hlen : (yL g (tmS S m)).length = (lgS S m).length := by rw [hR1.2.2.2.2.1 _ _ hwm rfl]
  have hxl : x ≤ (lgS S m).length := by rw [← hlen]; exact Nat.le_trans hxa (hR1.2.2.2.2.2.1.2.1 f _)
  refine h.lead (fun r k q1 q2 q3 q4 q5 => same_ne ⟨q2, q3⟩) (fun _ _ _ _ => rfl) (fun i hi l hl _ => ?_) (fun i hi => ?_) (fun i hi => ?_) (fun k hk => ?_) (fun i hi hr hi2 => ?_) (fun k hk hz => ?_) (fun i hi hz => ?_)
  · obtain ⟨⟨l2, b1, b2, cc, b3, b4⟩, _⟩ := hM i hi
    rw [same_ne (by decide)]
    refine ⟨cc, b3, ?_⟩
    have e1 := nt_of b1 (by omega)
    have e2 := nt_of hl (by omega)
    omega
  · rw [same_ne (by decide)]; exact hR5 i hi
  · rw [same_ne (by decide)]; exact ⟨(hM i hi).2.2.2.2.1, (hM i hi).2.2.2.2.2.1⟩
  · rw [same_ne (by decide)]; exact (hC k hk).2
  · obtain ⟨y1, y2, y3, y4⟩ := hr hi2
    have at19 : ∀ k, sameS S m w 19 k = S 19 k ∨ (k = 5 * m + f ∧ sameS S m w 19 k = Int32.ofNat x) := by
      intro k
      unfold sameS
      split
      · by_cases z : k = 5 * m + nt (w 1)
        · refine Or.inr ⟨by rw [z, enf], ?_⟩
          rw [z, u2_eq, hw4]
        · rw [u2_ne (Or.inr z), u2_ne (Or.inl (by decide))]; exact Or.inl rfl
      · exact Or.inl rfl
    have at20 : ∀ k, sameS S m w 20 k = S 20 k ∨ (k = 5 * m + f ∧ sameS S m w 20 k = Int32.ofNat x) := by
      intro k
      unfold sameS
      split
      · by_cases z : k = 5 * m + nt (w 1)
        · refine Or.inr ⟨by rw [z, enf], ?_⟩
          rw [u2_ne (Or.inl (by decide)), z, u2_eq, hw4]
        · rw [u2_ne (Or.inl (by decide)), u2_ne (Or.inr z)]; exact Or.inl rfl
      · exact Or.inl rfl
    refine ⟨fun o ho hoi => ?_, fun o ho => ?_, fun o ho hoo => ?_⟩
    · rcases at19 (5 * i + o) with q | ⟨q1, q2⟩
      · rw [q]; exact y2 o ho hoi
      · have ei : i = m := by omega
        subst ei
        exact ⟨x, q2, hxl⟩
    · rcases at20 (5 * i + o) with q | ⟨q1, q2⟩
      · rw [q]; exact y3 o ho
      · have ei : i = m := by omega
        have eo : o = f := by omega
        subst ei eo
        exact ⟨x, q2, hx30, fun z => by omega, fun _ _ => hxa⟩
    · rw [same_ne (by decide)]; exact y4 o ho hoo
  · rw [same_ne (by decide)] at hz; exact f5 k hk hz
  · rw [same_ne (by decide)] at hz; exact f6 i hi hz
theorem com_ne {r k : Nat} (h : r ≠ 13 ∨ k ≠ m) : commitS S m r k = S r k := by
  unfold commitS
  split
  · exact u2_ne h
  · rfl
theorem inv_commit (h : INVw st n na g pa pv S F) (hst : st < 2000) (hm : m < n) (hlead : S 11 m = 2) : INVw st n na g pa pv (commitS S m) F := by
  obtain ⟨⟨a1, a2, a3, s0, a4, a5⟩, hM, hC, ⟨hR1, hR2, hR3, hR4, hR5, hR6⟩, hP, hZ, hE, hH, hX, ⟨f1, f2, f3, f4, f5, f6⟩⟩ := id h
  have n5 : n ≤ 5 := by omega
  obtain ⟨hwm, _, hsame, _⟩ := hR4 m hm hlead
  have hlg : lgS S m = yL g (tmS S m) := hR1.2.2.2.2.1 _ _ hwm rfl
  obtain ⟨⟨l, hl, hl30, c0, hc0, hc0l⟩, ⟨t, ht, htst⟩, _⟩ := hM m (by omega)
  have etm : tmS S m = t := nt_of ht (by omega)
  have ell : (lgS S m).length = l := by rw [lgS_len]; exact nt_of hl (by omega)
  have en : nt (S 0 0) = n := nt_of a1 (by omega)
  have ntl : nt (S 12 m) = l := nt_of hl (by omega)
  have key : commitS S m 13 m = S 13 m ∨ ∃ r, commitS S m 13 m = Int32.ofNat r ∧ r ≤ l ∧ yCI n g r (tmS S m) (lgS S m) := by
    unfold commitS
    rw [en, ntl]
    split
    · rename_i cc
      obtain ⟨r1, r2⟩ := rank_spec (S := S) (m := m) (n := n) (k := n / 2) l
      generalize rankN S m n (n / 2) l = r at *
      refine Or.inr ⟨r, u2_eq, r1, ?_⟩
      by_cases z : r = 0
      · exact Or.inl z
      · refine Or.inr ⟨tmS S m, r, Nat.le_refl _, Nat.le_refl _, ⟨?_, fun i => decide (i = m) || decide (Int32.ofNat r ≤ S 20 (5 * m + i)), ?_, fun a ha hq => ?_⟩, ?_⟩
        · obtain ⟨r', rfl⟩ : ∃ r', r = r' + 1 := ⟨r - 1, by omega⟩
          have hge := lgS_get (S := S) (i := m) (k := r') (by omega)
          have e2 := cc.2
          rw [tm_lg hl hl30 (by omega), tmL_some hge] at e2
          refine ⟨enS S m r', by omega, ?_, ?_⟩
          · rw [← hlg]; exact hge
          · unfold yT tmS
            rw [e2]
        · have hk := r2.resolve_left z
          have := know_cnt (S := S) (m := m) (x := Int32.ofNat r) n
          rw [if_pos hm] at this
          unfold ymaj
          omega
        · by_cases y : a = m
          · subst y
            rw [hR1.2.2.2.2.2.1.1 _ _ hwm, ← hlg, ell]; exact r1
          · have hq' : (decide (a = m) || decide (Int32.ofNat r ≤ S 20 (5 * m + a))) = true := hq
            rw [decide_eq_false y, Bool.false_or, decide_eq_true_iff] at hq'
            obtain ⟨s, s1, s2, _, s4⟩ := hsame a (by omega)
            rw [s1, o_le _ _ (by omega) (by omega)] at hq'
            exact Nat.le_trans hq' (s4 ha y)
        · rw [hlg]; exact List.take_prefix _ _
    · exact Or.inl rfl
  refine h.lead (fun r k q1 _ _ _ _ => com_ne (Or.inl q1)) (fun _ _ _ _ => rfl) (fun i hi l2 hl2 hl230 => ?_) (fun i hi => ?_) (fun i hi => ?_) (fun k hk => ?_) (fun i hi hr hi2 => ?_) (fun k hk hz => ?_) (fun i hi hz => ?_)
  · have old : ∃ c, S 13 i = Int32.ofNat c ∧ c ≤ l2 := by
      obtain ⟨⟨l3, b1, b2, cc, b3, b4⟩, _⟩ := hM i hi
      have := o_inj (b1.symm.trans hl2) (by omega) (by omega)
      exact ⟨cc, b3, by omega⟩
    by_cases z : i = m
    · subst z
      have := o_inj (hl.symm.trans hl2) (by omega) (by omega)
      rcases key with q | ⟨r, q1, q2, _⟩
      · rw [q]; exact old
      · exact ⟨r, q1, by omega⟩
    · rw [com_ne (Or.inr z)]; exact old
  · by_cases z : i = m
    · subst z
      rcases key with q | ⟨r, q1, q2, q3⟩
      · rw [q]; exact hR5 i hi
      · rw [q1, nt_of rfl (by omega)]; exact q3
    · rw [com_ne (Or.inr z)]; exact hR5 i hi
  · rw [com_ne (Or.inl (by decide))]; exact ⟨(hM i hi).2.2.2.2.1, (hM i hi).2.2.2.2.2.1⟩
  · rw [com_ne (Or.inl (by decide))]; exact (hC k hk).2
  · obtain ⟨y1, y2, y3, y4⟩ := hr hi2
    refine ⟨fun o ho hoi => ?_, fun o ho => ?_, fun o ho hoo => ?_⟩
    · rw [com_ne (Or.inl (by decide))]; exact y2 o ho hoi
    · rw [com_ne (Or.inl (by decide))]; exact y3 o ho
    · rw [com_ne (Or.inl (by decide))]; exact y4 o ho hoo
  · rw [com_ne (Or.inl (by decide))] at hz; exact f5 k hk hz
  · rw [com_ne (Or.inl (by decide))] at hz; exact f6 i hi hz
theorem inv_clock (h : INVw st n na g pa pv S F) (hm : m < n) {f : Nat} (hf : f < n) (hfm : f ≠ m) (hw1 : w 1 = Int32.ofNat f) (hc : fpF c) : INVw st n na g pa pv (clockP (S, F) m w c).1 (clockP (S, F) m w c).2 := by
  obtain ⟨⟨a1, a2, a3, s0, a4, a5⟩, hM, hC, ⟨hR1, hR2, hR3, hR4, hR5, hR6⟩, hP, hZ, hE, hH, hX, ⟨f1, f2, f3, f4, f5, f6⟩⟩ := id h
  have n5 : n ≤ 5 := by omega
  have enf : nt (w 1) = f := nt_of hw1 (by omega)
  unfold clockP
  dsimp only
  rw [enf]
  have ne : ∀ r k, r ≠ 21 ∨ k ≠ 5 * m + f → u2 S 21 (5 * m + f) 1 r k = S r k := fun r k hk => u2_ne hk
  refine h.lead (fun r k _ _ _ q _ => ne r k (Or.inl q)) (fun r k q _ => u2_ne (Or.inl q)) (fun i hi l2 hl2 _ => ?_) (fun i hi => ?_) (fun i hi => ?_) (fun k hk => ?_) (fun i hi hr hi2 => ?_) (fun k hk hz => ?_) (fun i hi hz => ?_)
  · rw [ne 13 i (by omega)]
    obtain ⟨⟨l3, b1, b2, cc, b3, b4⟩, _⟩ := hM i hi
    have := o_inj (b1.symm.trans hl2) (by omega) (by omega)
    exact ⟨cc, b3, by omega⟩
  · rw [ne 13 i (by omega)]; exact hR5 i hi
  · rw [ne 23 i (by omega)]; exact ⟨(hM i hi).2.2.2.2.1, (hM i hi).2.2.2.2.2.1⟩
  · by_cases z : k = 5 * m + f
    · rw [z, u2_eq]; exact Or.inr rfl
    · rw [ne 21 k (Or.inr z)]; exact (hC k hk).2
  · obtain ⟨y1, y2, y3, y4⟩ := hr hi2
    refine ⟨fun o ho hoi => ?_, fun o ho => ?_, fun o ho hoo => ?_⟩
    · rw [ne 19 _ (by omega)]; exact y2 o ho hoi
    · rw [ne 20 _ (by omega)]; exact y3 o ho
    · rw [ne 21 _ (by omega)]; exact y4 o ho hoo
  · by_cases z : k = 5 * m + f
    · rw [z, u2_eq]
      split
      · rename_i cc
        exact f5 _ (by omega) cc.1
      · exact hc
    · rw [ne 21 k (Or.inr z)] at hz
      rw [u2_ne (Or.inr z)]; exact f5 k hk hz
  · rw [ne 23 i (by omega)] at hz
    rw [u2_ne (Or.inl (by decide))]; exact f6 i hi hz
theorem since_ans {o : Nat} : ∀ k, 0 < sinceN S F m o k → S 21 (5 * m + o) = 1 := by
  intro k
  induction k with
  | zero => intro h; exact absurd h (Nat.lt_irrefl _)
  | succ k ih =>
    intro h
    unfold sinceN at h
    by_cases c : ¬ k = m ∧ S 21 (5 * m + k) = 1 ∧ S 21 (5 * m + o) = 1 ∧ 0 ≤ Op.cmpValue (FP.fcmp (F 22 (5 * m + k)) (F 22 (5 * m + o))) .l
    · exact c.2.2.1
    · rw [if_neg c] at h; exact ih h
theorem best_pf (hn : 2 ≤ n) (h5 : ∀ o, o < 5 → S 21 (5 * m + o) = 1 → fpF (F 22 (5 * m + o))) : ∀ j, j ≤ 5 → fpF (bestF S F m n j).2 := by
  intro j
  induction j with
  | zero => exact fun _ => PQ_c0.pf
  | succ j ih =>
    intro hj
    unfold bestF
    dsimp only
    split
    · rename_i cc
      have := of_decide_eq_true cc.1
      exact h5 j (by omega) (since_ans (S := S) (F := F) (m := m) (o := j) n (by omega))
    · exact ih (by omega)
theorem inv_lease (h : INVw st n na g pa pv S F) (hm : m < n) (hlead : S 11 m = 2) : INVw st n na g pa pv (leaseP (S, F) m).1 (leaseP (S, F) m).2 := by
  obtain ⟨⟨a1, a2, a3, s0, a4, a5⟩, hM, hC, ⟨hR1, hR2, hR3, hR4, hR5, hR6⟩, hP, hZ, hE, hH, hX, ⟨f1, f2, f3, f4, f5, f6⟩⟩ := id h
  have n5 : n ≤ 5 := by omega
  have en : nt (S 0 0) = n := nt_of a1 (by omega)
  unfold leaseP
  dsimp only
  rw [en]
  split
  · show INVw st n na g pa pv (u2 S 23 m 1) (u2 F 24 m (FP.fadd (bestF S F m n n).2 (FP.fmul (F 2 0) (FP.fsub FP.fconst1 (F 3 0)))))
    have ne : ∀ r k, r ≠ 23 ∨ k ≠ m → u2 S 23 m 1 r k = S r k := fun r k hk => u2_ne hk
    refine h.lead (fun r k _ _ _ _ q => ne r k (Or.inl q)) (fun r k _ q => u2_ne (Or.inl q)) (fun i hi l2 hl2 _ => ?_) (fun i hi => ?_) (fun i hi => ?_) (fun k hk => ?_) (fun i hi hr hi2 => ?_) (fun k hk hz => ?_) (fun i hi hz => ?_)
    · rw [ne 13 i (by omega)]
      obtain ⟨⟨l3, b1, b2, cc, b3, b4⟩, _⟩ := hM i hi
      have := o_inj (b1.symm.trans hl2) (by omega) (by omega)
      exact ⟨cc, b3, by omega⟩
    · rw [ne 13 i (by omega)]; exact hR5 i hi
    · by_cases z : i = m
      · subst z; rw [u2_eq]; exact ⟨Or.inr rfl, fun _ => hlead⟩
      · rw [ne 23 i (Or.inr z)]; exact ⟨(hM i hi).2.2.2.2.1, (hM i hi).2.2.2.2.2.1⟩
    · rw [ne 21 k (by omega)]; exact (hC k hk).2
    · obtain ⟨y1, y2, y3, y4⟩ := hr hi2
      refine ⟨fun o ho hoi => ?_, fun o ho => ?_, fun o ho hoo => ?_⟩
      · rw [ne 19 _ (by omega)]; exact y2 o ho hoi
      · rw [ne 20 _ (by omega)]; exact y3 o ho
      · rw [ne 21 _ (by omega)]; exact y4 o ho hoo
    · rw [ne 21 k (by omega)] at hz
      rw [u2_ne (by omega)]; exact f5 k hk hz
    · by_cases z : i = m
      · subst z
        rw [u2_eq]
        exact PF_add (best_pf (by omega) (fun o ho => f5 _ (by omega)) n n5) (PF_mul f2 f3)
      · rw [ne 23 i (Or.inr z)] at hz
        rw [u2_ne (Or.inr z)]; exact f6 i hi hz
  · exact h
theorem inv_acked (hst : st < 2000) (h : INVw st n na g pa pv S F) (hm : m < n) (hw2 : w 2 = Int32.ofNat m) (hw0 : w 0 = 3) (hK : MOK n st (tmS S) g (blS S) pa pv w c) : INVw st n na g pa pv (ackedP (S, F) m w c).1 (ackedP (S, F) m w c).2 := by
  obtain ⟨⟨a1, a2, a3, s0, a4, a5⟩, hM, hC, ⟨hR1, hR2, hR3, hR4, hR5, hR6⟩, hP, hZ, hE, hH, hX, ⟨f1, f2, f3, f4, f5, f6⟩⟩ := id h
  have n5 : n ≤ 5 := by omega
  obtain ⟨kd, f, m', k0, k7, k1, kf, k2, km, kfm, kc, kA, _⟩ := hK
  have hkd : kd = 3 := o_inj (k0.symm.trans hw0) (by omega) (by omega)
  subst hkd
  have hmm : m' = m := o_inj (k2.symm.trans hw2) (by omega) (by omega)
  subst hmm
  obtain ⟨t, b1, b2, b3, _, _, _, b7⟩ := kA (by omega)
  obtain ⟨x, x1, x2, x3, x4⟩ := b7 rfl
  obtain ⟨⟨l, hl, hl30, c0, hc0, hc0l⟩, ⟨t0, ht0, ht0st⟩, _⟩ := hM m' (by omega)
  have etm : tmS S m' = t0 := nt_of ht0 (by omega)
  have enf : nt (w 1) = f := nt_of k1 (by omega)
  unfold ackedP
  dsimp only
  split
  · exact h
  · rename_i nc
    have c11 : S 11 m' = 2 := Classical.byContradiction fun z => nc (Or.inl z)
    have c9 : w 3 = S 9 m' := Classical.byContradiction fun z => nc (Or.inr z)
    have ett : t = t0 := o_inj (b1.symm.trans (c9.trans ht0)) (by omega) (by omega)
    subst ett
    obtain ⟨hwm, _⟩ := hR4 m' hm c11
    have hlg : lgS S m' = yL g (tmS S m') := hR1.2.2.2.2.1 _ _ hwm rfl
    split
    · -- no
      rw [enf]
      show INVw st n na g pa pv (u2 S 19 (5 * m' + f) (w 4)) F
      have ne : ∀ r k, r ≠ 19 ∨ k ≠ 5 * m' + f → u2 S 19 (5 * m' + f) (w 4) r k = S r k := fun r k hk => u2_ne hk
      refine h.lead (fun r k _ q _ _ _ => ne r k (Or.inl q)) (fun _ _ _ _ => rfl) (fun i hi l2 hl2 _ => ?_) (fun i hi => ?_) (fun i hi => ?_) (fun k hk => ?_) (fun i hi hr hi2 => ?_) (fun k hk hz => ?_) (fun i hi hz => ?_)
      · rw [ne 13 i (by omega)]
        obtain ⟨⟨l3, y1, y2, cc, y3, y4⟩, _⟩ := hM i hi
        have := o_inj (y1.symm.trans hl2) (by omega) (by omega)
        exact ⟨cc, y3, by omega⟩
      · rw [ne 13 i (by omega)]; exact hR5 i hi
      · rw [ne 23 i (by omega)]; exact ⟨(hM i hi).2.2.2.2.1, (hM i hi).2.2.2.2.2.1⟩
      · rw [ne 21 k (by omega)]; exact (hC k hk).2
      · obtain ⟨y1, y2, y3, y4⟩ := hr hi2
        refine ⟨fun o ho hoi => ?_, fun o ho => ?_, fun o ho hoo => ?_⟩
        · by_cases z : 5 * i + o = 5 * m' + f
          · have ei : i = m' := by omega
            subst ei
            rw [z, u2_eq]
            refine ⟨x, x1, ?_⟩
            rcases x4 with q | ⟨_, q⟩
            · omega
            · rw [hlg, etm]; exact q
          · rw [ne 19 _ (Or.inr z)]; exact y2 o ho hoi
        · rw [ne 20 _ (by omega)]; exact y3 o ho
        · rw [ne 21 _ (by omega)]; exact y4 o ho hoo
      · rw [ne 21 k (by omega)] at hz; exact f5 k hk hz
      · rw [ne 23 i (by omega)] at hz; exact f6 i hi hz
    · -- yes
      rename_i c7
      obtain ⟨_, xa⟩ := x3 c7
      have s1 := inv_same h hm kf kfm k1 x1 x2 (by rw [etm]; exact xa) c11
      have l1 : sameS S m' w 11 m' = 2 := (same_ne (by decide)).trans c11
      have s2 := inv_commit s1 hst hm l1
      have l2 : commitS (sameS S m' w) m' 11 m' = 2 := (com_ne (Or.inl (by decide))).trans l1
      have s3 := inv_clock (c := c) s2 hm kf kfm k1 kc
      exact inv_lease s3 hm ((u2_ne (Or.inl (by decide))).trans l2)
end DEL4
