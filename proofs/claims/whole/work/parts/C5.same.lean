/-! ===== the class's way and the reference's: commits, clocks, leases ===== -/
section SAME5
variable {st n na : Nat} {S S' : SI} {F F' : SF} {m : Nat} {w : RW} {c : UInt32}
theorem know_same (hn5 : n ≤ 5) (hm : m < n) {x : Nat} (hx : 1 ≤ x) (hx30 : x ≤ 30) (h20 : ∀ o, o < 5 → ∃ s, S 20 (5 * m + o) = Int32.ofNat s ∧ s ≤ 30 ∧ (o = m ∨ n ≤ o → s = 0)) : knowC S m (Int32.ofNat x) 5 = knowN S m (Int32.ofNat x) n := by
  have st : ∀ j, j < 5 → knowC S m (Int32.ofNat x) (j + 1) = knowC S m (Int32.ofNat x) j + (if S 20 (5 * m + j) < Int32.ofNat x then 0 else 1) := fun j _ => rfl
  have a : ∀ j, j ≤ n → knowC S m (Int32.ofNat x) j = knowN S m (Int32.ofNat x) j := by
    intro j
    induction j with
    | zero => exact fun _ => rfl
    | succ j ih =>
      intro hj
      obtain ⟨s, s1, s2, s3⟩ := h20 j (by omega)
      have lt : (Int32.ofNat s < Int32.ofNat x) = (s < x) := o_lt _ _ (by omega) (by omega)
      have le : (Int32.ofNat x ≤ Int32.ofNat s) = (x ≤ s) := o_le _ _ (by omega) (by omega)
      rw [st j (by omega), know_s, ih (by omega), s1]
      by_cases y : s < x
      · have p1 : Int32.ofNat s < Int32.ofNat x := by rw [lt]; exact y
        have p2 : ¬ (¬ j = m ∧ Int32.ofNat x ≤ Int32.ofNat s) := fun u => by
          have := u.2
          rw [le] at this
          omega
        rw [if_pos p1, if_neg p2]
      · have p1 : ¬ Int32.ofNat s < Int32.ofNat x := by rw [lt]; exact y
        have p2 : ¬ j = m ∧ Int32.ofNat x ≤ Int32.ofNat s := ⟨fun z => by have := s3 (Or.inl z); omega, by rw [le]; omega⟩
        rw [if_neg p1, if_pos p2]
  have b : ∀ j, n ≤ j → j ≤ 5 → knowC S m (Int32.ofNat x) j = knowN S m (Int32.ofNat x) n := by
    intro j
    induction j with
    | zero => intro h1 _; omega
    | succ j ih =>
      intro h1 h2
      by_cases z : n = j + 1
      · rw [← z]; exact a n (Nat.le_refl _)
      · obtain ⟨s, s1, s2, s3⟩ := h20 j (by omega)
        have p1 : Int32.ofNat s < Int32.ofNat x := by
          rw [o_lt _ _ (by omega) (by omega)]
          have := s3 (Or.inr (by omega))
          omega
        rw [st j (by omega), ih (by omega) (by omega), s1, if_pos p1, Nat.add_zero]
  exact b 5 hn5 (Nat.le_refl _)
theorem knowC_5 {x : Int32} : knowC S m x 5 ≤ 5 := knowC_le S m x 5
theorem cmt_same (hn : S 0 0 = Int32.ofNat n) (hn5 : n ≤ 5) (hm : m < n) {c0 : Nat} (hc : S 13 m = Int32.ofNat c0) (hc30 : c0 ≤ 30) (h20 : ∀ o, o < 5 → ∃ s, S 20 (5 * m + o) = Int32.ofNat s ∧ s ≤ 30 ∧ (o = m ∨ n ≤ o → s = 0)) : ∀ x, x ≤ 30 → cmtC S m x = (if S 13 m < Int32.ofNat (rankN S m n (n / 2) x) ∧ tmAt S m (Int32.ofNat (rankN S m n (n / 2) x)) = S 9 m then u2 S 13 m (Int32.ofNat (rankN S m n (n / 2) x)) else S) := by
  intro x
  induction x with
  | zero =>
    intro _
    have e : rankN S m n (n / 2) 0 = 0 := rfl
    rw [e, if_neg]
    · rfl
    · intro z
      have := z.1
      rw [hc, o_lt _ _ (by omega) (by omega)] at this
      omega
  | succ x ih =>
    intro hx
    have h1 : cmtC S m (x + 1) = if ((x + 1 : Nat) : Int) ≤ (S 13 m).toInt then S else if mostI S ≤ Int32.ofNat (knowC S m (Int32.ofNat (x + 1)) 5) + 1 then (if tmAt S m (Int32.ofNat (x + 1)) = S 9 m then u2 S 13 m (Int32.ofNat (x + 1)) else S) else cmtC S m x := rfl
    have h2 : rankN S m n (n / 2) (x + 1) = if n / 2 ≤ knowN S m (Int32.ofNat (x + 1)) n then x + 1 else rankN S m n (n / 2) x := rfl
    rw [h1]
    by_cases c1 : ((x + 1 : Nat) : Int) ≤ (S 13 m).toInt
    · rw [if_pos c1, if_neg]
      intro z
      have z1 := z.1
      have := (rank_spec (S := S) (m := m) (n := n) (k := n / 2) (x + 1)).1
      rw [hc, o_i _ (by omega)] at c1
      rw [hc, o_lt _ _ (by omega) (by omega)] at z1
      omega
    · rw [if_neg c1]
      have hk5 := knowC_5 (S := S) (m := m) (x := Int32.ofNat (x + 1))
      have e2 : Int32.ofNat n / 2 = Int32.ofNat (n / 2) := o_div n 2 (by omega) (by omega)
      have em : (mostI S ≤ Int32.ofNat (knowC S m (Int32.ofNat (x + 1)) 5) + 1) = (n / 2 ≤ knowN S m (Int32.ofNat (x + 1)) n) := by
        rw [← know_same hn5 hm (x := x + 1) (by omega) (by omega) h20]
        unfold mostI
        rw [hn, e2, o_addn, o_addn, o_le _ _ (by omega) (by omega)]
        apply propext
        constructor <;> intro z <;> omega
      rw [h2]
      by_cases c2 : n / 2 ≤ knowN S m (Int32.ofNat (x + 1)) n
      · have c2' : mostI S ≤ Int32.ofNat (knowC S m (Int32.ofNat (x + 1)) 5) + 1 := by rw [em]; exact c2
        rw [if_pos c2', if_pos c2]
        rw [hc, o_i _ (by omega)] at c1
        have lt : S 13 m < Int32.ofNat (x + 1) := by
          rw [hc, o_lt _ _ (by omega) (by omega)]; omega
        by_cases c3 : tmAt S m (Int32.ofNat (x + 1)) = S 9 m
        · rw [if_pos c3, if_pos ⟨lt, c3⟩]
        · rw [if_neg c3, if_neg (fun z => c3 z.2)]
      · have c2' : ¬ mostI S ≤ Int32.ofNat (knowC S m (Int32.ofNat (x + 1)) 5) + 1 := by rw [em]; exact c2
        rw [if_neg c2', if_neg c2]
        exact ih (by omega)
/-- the clock that is kept -/
theorem tk_same {f : Nat} (hc : fpF c) (h22 : S 21 (5 * m + f) = 1 → fpF (F 22 (5 * m + f))) (h21 : S 21 (5 * m + f) = 0 ∨ S 21 (5 * m + f) = 1) : tkF S F m f c = (if S 21 (5 * m + f) = 1 ∧ 0 < Op.cmpValue (FP.fcmp (F 22 (5 * m + f)) c) .l then F 22 (5 * m + f) else c) := by
  unfold tkF ckF
  rcases h21 with q | q
  · have n1 : ¬ S 21 (5 * m + f) = 1 := by rw [q]; decide
    have n2 : ¬ (S 21 (5 * m + f) = 1 ∧ 0 < Op.cmpValue (FP.fcmp (F 22 (5 * m + f)) c) .l) := fun z => n1 z.1
    rw [if_neg n1, if_neg n2]
    by_cases z : c.toNat ≤ FP.fconst0.toNat
    · have p : Op.cmpValue (FP.fcmp c FP.fconst0) .l ≤ 0 := by rw [cv_le hc PQ_c0.pf]; exact z
      rw [if_pos p]
      have e : FP.fconst0.toNat = 0 := rfl
      exact (UInt32.toNat_inj.mp (by omega)).symm
    · have p : ¬ Op.cmpValue (FP.fcmp c FP.fconst0) .l ≤ 0 := by rw [cv_le hc PQ_c0.pf]; exact z
      rw [if_neg p]
  · have hf := h22 q
    rw [if_pos q]
    by_cases z : c.toNat ≤ (F 22 (5 * m + f)).toNat
    · have p : Op.cmpValue (FP.fcmp c (F 22 (5 * m + f))) .l ≤ 0 := by rw [cv_le hc hf]; exact z
      rw [if_pos p]
      by_cases y : c.toNat < (F 22 (5 * m + f)).toNat
      · rw [if_pos ⟨q, by rw [cv_gt hf hc]; exact y⟩]
      · rw [if_neg (fun u => y (by have := u.2; rw [cv_gt hf hc] at this; exact this))]
        exact UInt32.toNat_inj.mp (by omega)
    · have p : ¬ Op.cmpValue (FP.fcmp c (F 22 (5 * m + f))) .l ≤ 0 := by rw [cv_le hc hf]; exact z
      rw [if_neg p, if_neg (fun u => z (by have := u.2; rw [cv_gt hf hc] at this; omega))]
theorem sinceC_s {x : UInt32} {j : Nat} : sinceC S F m x (j + 1) = sinceC S F m x j + (if S 21 (5 * m + j) = 1 ∧ ¬ Op.cmpValue (FP.fcmp (ckF S F m j) x) .l < 0 then 1 else 0) := rfl
theorem sinceN_s {o k : Nat} : sinceN S F m o (k + 1) = sinceN S F m o k + (if ¬ k = m ∧ S 21 (5 * m + k) = 1 ∧ S 21 (5 * m + o) = 1 ∧ 0 ≤ Op.cmpValue (FP.fcmp (F 22 (5 * m + k)) (F 22 (5 * m + o))) .l then 1 else 0) := rfl
theorem since_same (hn5 : n ≤ 5) (h21 : ∀ o, o < 5 → o = m ∨ n ≤ o → S 21 (5 * m + o) = 0) {o : Nat} (ho : S 21 (5 * m + o) = 1) : sinceC S F m (F 22 (5 * m + o)) 5 = sinceN S F m o n := by
  have a : ∀ j, j ≤ n → sinceC S F m (F 22 (5 * m + o)) j = sinceN S F m o j := by
    intro j
    induction j with
    | zero => exact fun _ => rfl
    | succ j ih =>
      intro hj
      rw [sinceC_s, sinceN_s, ih (by omega)]
      congr 1
      by_cases z : S 21 (5 * m + j) = 1
      · have jm : ¬ j = m := by
          intro y
          rw [h21 j (by omega) (Or.inl y)] at z
          exact absurd z (by decide)
        have ec : ckF S F m j = F 22 (5 * m + j) := if_pos z
        rw [ec]
        by_cases y : Op.cmpValue (FP.fcmp (F 22 (5 * m + j)) (F 22 (5 * m + o))) .l < 0
        · rw [if_neg (fun u => u.2 y), if_neg (fun u => absurd u.2.2.2 (Int32.not_le.mpr y))]
        · rw [if_pos ⟨z, y⟩, if_pos ⟨jm, z, ho, Int32.not_lt.mp y⟩]
      · rw [if_neg (fun u => z u.1), if_neg (fun u => z u.2.1)]
  have b : ∀ j, n ≤ j → j ≤ 5 → sinceC S F m (F 22 (5 * m + o)) j = sinceN S F m o n := by
    intro j
    induction j with
    | zero =>
      intro h1 _
      have : n = 0 := by omega
      subst this; rfl
    | succ j ih =>
      intro h1 h2
      by_cases z : n = j + 1
      · rw [← z]; exact a n (Nat.le_refl _)
      · rw [sinceC_s, ih (by omega) (by omega), if_neg, Nat.add_zero]
        intro u
        have := h21 j (by omega) (Or.inr (by omega))
        rw [this] at u
        exact absurd u.1 (by decide)
  exact b 5 hn5 (Nat.le_refl _)
theorem clockC_s {x : Int32} {j : Nat} : clockC S F m x (j + 1) = if S 21 (5 * m + j) = 1 ∧ ¬ Op.cmpValue (FP.fcmp (ckF S F m j) (clockC S F m x j)) .l ≤ 0 ∧ ¬ Int32.ofNat (sinceC S F m (ckF S F m j) 5) < x then ckF S F m j else clockC S F m x j := rfl
theorem best_s {o : Nat} : bestF S F m n (o + 1) = ((bestF S F m n o).1 || enoB S F m n o, if enoB S F m n o = true ∧ ((bestF S F m n o).1 = false ∨ 0 < Op.cmpValue (FP.fcmp (F 22 (5 * m + o)) (bestF S F m n o).2) .l) then F 22 (5 * m + o) else (bestF S F m n o).2) := rfl
theorem eno_ans (hn : 2 ≤ n) {o : Nat} (h : enoB S F m n o = true) : ¬ o = m ∧ S 21 (5 * m + o) = 1 ∧ n / 2 ≤ sinceN S F m o n := by
  have := of_decide_eq_true h
  exact ⟨this.1, since_ans (S := S) (F := F) (m := m) (o := o) n (by omega), this.2⟩
theorem best_same (hn : 2 ≤ n) (hn5 : n ≤ 5) (h21 : ∀ o, o < 5 → o = m ∨ n ≤ o → S 21 (5 * m + o) = 0) (h22 : ∀ o, o < 5 → S 21 (5 * m + o) = 1 → fpF (F 22 (5 * m + o))) : clockC S F m (Int32.ofNat (n / 2)) 5 = (bestF S F m n n).2 := by
  have a : ∀ j, j ≤ n → clockC S F m (Int32.ofNat (n / 2)) j = (bestF S F m n j).2 ∧ fpF (bestF S F m n j).2 ∧ ((bestF S F m n j).1 = false → (bestF S F m n j).2 = FP.fconst0) := by
    intro j
    induction j with
    | zero => exact fun _ => ⟨rfl, PQ_c0.pf, fun _ => rfl⟩
    | succ j ih =>
      intro hj
      obtain ⟨i1, i2, i3⟩ := ih (by omega)
      rw [clockC_s, best_s, i1]
      generalize bestF S F m n j = q at *
      cases he : enoB S F m n j
      · have nc : ¬ (S 21 (5 * m + j) = 1 ∧ ¬ Op.cmpValue (FP.fcmp (ckF S F m j) q.2) .l ≤ 0 ∧ ¬ Int32.ofNat (sinceC S F m (ckF S F m j) 5) < Int32.ofNat (n / 2)) := by
          rintro ⟨u1, _, u3⟩
          have ec : ckF S F m j = F 22 (5 * m + j) := if_pos u1
          have hle := sinceC_le S F m (F 22 (5 * m + j)) 5
          rw [ec, o_lt _ _ (by omega) (by omega), since_same hn5 h21 u1] at u3
          have jm : ¬ j = m := by
            intro y
            rw [h21 j (by omega) (Or.inl y)] at u1
            exact absurd u1 (by decide)
          have : enoB S F m n j = true := decide_eq_true ⟨jm, by omega⟩
          rw [he] at this
          exact absurd this (by decide)
        rw [if_neg nc, if_neg (fun u => absurd u.1 (by decide)), Bool.or_false]
        exact ⟨rfl, i2, i3⟩
      · obtain ⟨e1, e2, e3⟩ := eno_ans hn he
        have ec : ckF S F m j = F 22 (5 * m + j) := if_pos e2
        have hf := h22 j (by omega) e2
        have hle := sinceC_le S F m (F 22 (5 * m + j)) 5
        have esC := since_same hn5 h21 e2 (F := F)
        rw [ec, Bool.or_true]
        by_cases y : q.2.toNat < (F 22 (5 * m + j)).toNat
        · have p1 : S 21 (5 * m + j) = 1 ∧ ¬ Op.cmpValue (FP.fcmp (F 22 (5 * m + j)) q.2) .l ≤ 0 ∧ ¬ Int32.ofNat (sinceC S F m (F 22 (5 * m + j)) 5) < Int32.ofNat (n / 2) := ⟨e2, by rw [cv_le hf i2]; omega, by rw [o_lt _ _ (by omega) (by omega)]; omega⟩
          rw [if_pos p1, if_pos ⟨rfl, Or.inr (by rw [cv_gt hf i2]; exact y)⟩]
          exact ⟨rfl, hf, fun z => absurd (show true = false from z) (by decide)⟩
        · have p1 : ¬ (S 21 (5 * m + j) = 1 ∧ ¬ Op.cmpValue (FP.fcmp (F 22 (5 * m + j)) q.2) .l ≤ 0 ∧ ¬ Int32.ofNat (sinceC S F m (F 22 (5 * m + j)) 5) < Int32.ofNat (n / 2)) := fun u => u.2.1 (by rw [cv_le hf i2]; omega)
          rw [if_neg p1]
          by_cases z : q.1 = false
          · rw [if_pos ⟨rfl, Or.inl z⟩]
            have q0 := i3 z
            have : F 22 (5 * m + j) = q.2 := by
              rw [q0] at y ⊢
              have e : FP.fconst0.toNat = 0 := rfl
              exact UInt32.toNat_inj.mp (by omega)
            exact ⟨this.symm, hf, fun z => absurd (show true = false from z) (by decide)⟩
          · rw [if_neg (fun u => by
              rcases u.2 with u | u
              · exact z u
              · rw [cv_gt hf i2] at u; exact y u)]
            exact ⟨rfl, i2, fun z => absurd (show true = false from z) (by decide)⟩
  have b : ∀ j, n ≤ j → j ≤ 5 → clockC S F m (Int32.ofNat (n / 2)) j = (bestF S F m n n).2 := by
    intro j
    induction j with
    | zero => intro h1 _; omega
    | succ j ih =>
      intro h1 h2
      by_cases z : n = j + 1
      · rw [← z]; exact (a n (Nat.le_refl _)).1
      · rw [clockC_s, if_neg, ih (by omega) (by omega)]
        intro u
        have := h21 j (by omega) (Or.inr (by omega))
        rw [this] at u
        exact absurd u.1 (by decide)
  exact b 5 hn5 (Nat.le_refl _)
/-- how many answered, of the first j -/
abbrev yans (S : SI) (m : Nat) : Nat → Bool := fun i => decide (S 21 (5 * m + i) = 1)
theorem since_le {o : Nat} : ∀ k, sinceN S F m o k ≤ ycnt (yans S m) k := by
  intro k
  induction k with
  | zero => exact Nat.le_refl _
  | succ k ih =>
    rw [sinceN_s, ycnt_s]
    by_cases z : ¬ k = m ∧ S 21 (5 * m + k) = 1 ∧ S 21 (5 * m + o) = 1 ∧ 0 ≤ Op.cmpValue (FP.fcmp (F 22 (5 * m + k)) (F 22 (5 * m + o))) .l
    · have : yans S m k = true := decide_eq_true z.2.1
      rw [if_pos z, if_pos this]; omega
    · rw [if_neg z]; omega
/-- the least clock of those that answered -/
theorem least_ans (h22 : ∀ o, o < 5 → S 21 (5 * m + o) = 1 → fpF (F 22 (5 * m + o))) : ∀ k, k ≤ 5 → 0 < ycnt (yans S m) k → ∃ o, o < k ∧ S 21 (5 * m + o) = 1 ∧ ∀ i, i < k → S 21 (5 * m + i) = 1 → (F 22 (5 * m + o)).toNat ≤ (F 22 (5 * m + i)).toNat := by
  intro k
  induction k with
  | zero => intro _ h; exact absurd h (Nat.lt_irrefl _)
  | succ k ih =>
    intro hk h
    by_cases z : S 21 (5 * m + k) = 1
    · by_cases y : 0 < ycnt (yans S m) k
      · obtain ⟨o, o1, o2, o3⟩ := ih (by omega) y
        by_cases u : (F 22 (5 * m + o)).toNat ≤ (F 22 (5 * m + k)).toNat
        · refine ⟨o, by omega, o2, fun i hi hz => ?_⟩
          by_cases v : i = k
          · subst v; exact u
          · exact o3 i (by omega) hz
        · refine ⟨k, by omega, z, fun i hi hz => ?_⟩
          by_cases v : i = k
          · subst v; exact Nat.le_refl _
          · have := o3 i (by omega) hz; omega
      · refine ⟨k, by omega, z, fun i hi hz => ?_⟩
        by_cases v : i = k
        · subst v; exact Nat.le_refl _
        · exfalso
          apply y
          have pos : ∀ q j, i < j → q = j → 0 < ycnt (yans S m) j := by
            intro q j
            induction j generalizing q with
            | zero => intro h1 _; omega
            | succ j ihj =>
              intro h1 _
              rw [ycnt_s]
              by_cases v2 : i = j
              · subst v2
                have : yans S m i = true := decide_eq_true hz
                rw [if_pos this]; omega
              · have := ihj j (by omega) rfl
                omega
          exact pos k k (by omega) rfl
    · have : ¬ yans S m k = true := fun y => z (of_decide_eq_true y)
      rw [ycnt_s, if_neg this] at h
      obtain ⟨o, o1, o2, o3⟩ := ih (by omega) (by omega)
      refine ⟨o, by omega, o2, fun i hi hz => ?_⟩
      by_cases v : i = k
      · subst v; exact absurd hz z
      · exact o3 i (by omega) hz
theorem any_iff (hn : 2 ≤ n) (hn5 : n ≤ 5) (hm : m < n) (h21 : ∀ o, o < 5 → o = m ∨ n ≤ o → S 21 (5 * m + o) = 0) (h22 : ∀ o, o < 5 → S 21 (5 * m + o) = 1 → fpF (F 22 (5 * m + o))) : (bestF S F m n n).1 = true ↔ n / 2 ≤ ycnt (yans S m) n := by
  have a : ∀ j, (bestF S F m n j).1 = true ↔ ∃ o, o < j ∧ enoB S F m n o = true := by
    intro j
    induction j with
    | zero =>
      constructor
      · intro h; exact absurd (show false = true from h) (by decide)
      · rintro ⟨o, h, _⟩; omega
    | succ j ih =>
      rw [best_s]
      show ((bestF S F m n j).1 || enoB S F m n j) = true ↔ _
      rw [Bool.or_eq_true, ih]
      constructor
      · rintro (⟨o, h1, h2⟩ | h)
        · exact ⟨o, by omega, h2⟩
        · exact ⟨j, by omega, h⟩
      · rintro ⟨o, h1, h2⟩
        by_cases z : o = j
        · subst z; exact Or.inr h2
        · exact Or.inl ⟨o, by omega, h2⟩
  rw [a]
  constructor
  · rintro ⟨o, _, h2⟩
    have := (eno_ans hn h2).2.2
    exact Nat.le_trans this (since_le n)
  · intro h
    obtain ⟨o, o1, o2, o3⟩ := least_ans h22 n hn5 (by omega)
    have om : ¬ o = m := by
      intro y
      rw [h21 o (by omega) (Or.inl y)] at o2
      exact absurd o2 (by decide)
    refine ⟨o, o1, decide_eq_true ⟨om, ?_⟩⟩
    have all : ∀ k, k ≤ n → ycnt (yans S m) k ≤ sinceN S F m o k := by
      intro k
      induction k with
      | zero => exact fun _ => Nat.le_refl _
      | succ k ih =>
        intro hk
        have ih := ih (by omega)
        rw [sinceN_s, ycnt_s]
        by_cases z : S 21 (5 * m + k) = 1
        · have km : ¬ k = m := by
            intro y
            rw [h21 k (by omega) (Or.inl y)] at z
            exact absurd z (by decide)
          have h0 : 0 ≤ Op.cmpValue (FP.fcmp (F 22 (5 * m + k)) (F 22 (5 * m + o))) .l := by
            rw [cv_ge (h22 k (by omega) z) (h22 o (by omega) o2)]
            exact o3 k (by omega) z
          have : yans S m k = true := decide_eq_true z
          rw [if_pos this, if_pos ⟨km, z, o2, h0⟩]
          omega
        · have : ¬ yans S m k = true := fun y => z (of_decide_eq_true y)
          rw [if_neg this]
          omega
    exact Nat.le_trans h (all n (Nat.le_refl _))
theorem tb_bits5 {f : Nat → Int32} (hz : ∀ j, j < 5 → f j = 0 ∨ f j = 1) : ∀ j, j < 5 → tb (bits5 f) j = decide (f j = 1) := by
  intro j hj
  unfold bits5
  rcases hz 0 (by omega) with e0 | e0 <;> rcases hz 1 (by omega) with e1 | e1 <;> rcases hz 2 (by omega) with e2 | e2 <;> rcases hz 3 (by omega) with e3 | e3 <;> rcases hz 4 (by omega) with e4 | e4 <;> rw [e0, e1, e2, e3, e4] <;> (have hj' : j = 0 ∨ j = 1 ∨ j = 2 ∨ j = 3 ∨ j = 4 := by omega) <;> rcases hj' with rfl | rfl | rfl | rfl | rfl <;> simp only [e0, e1, e2, e3, e4] <;> decide +kernel
theorem lease_same (hn : S 0 0 = Int32.ofNat n) (hn5 : n = 3 ∨ n = 5) (hm : m < n) (hz : ∀ o, o < 5 → S 21 (5 * m + o) = 0 ∨ S 21 (5 * m + o) = 1) (h21 : ∀ o, o < 5 → o = m ∨ n ≤ o → S 21 (5 * m + o) = 0) (h22 : ∀ o, o < 5 → S 21 (5 * m + o) = 1 → fpF (F 22 (5 * m + o))) : leaseC (S, F) m = leaseP (S, F) m := by
  have en : nt (S 0 0) = n := nt_of hn (by omega)
  have e2 : Int32.ofNat n / 2 = Int32.ofNat (n / 2) := o_div n 2 (by omega) (by omega)
  have em1 : mostI S - 1 = Int32.ofNat (n / 2) := by
    unfold mostI
    rw [hn, e2, o_addn, o_sub1 _ (by omega)]
    rfl
  have cnt : ∀ j, j ≤ 5 → ycnt (fun a => tb (bits5 (fun j => S 21 (5 * m + j)) ||| bitI (Int32.ofNat m)) a) j = ycnt (yans S m) j + (if m < j then 1 else 0) := by
    intro j
    induction j with
    | zero => intro _; rw [if_neg (by omega)]; rfl
    | succ j ih =>
      intro hj
      rw [ycnt_s, ycnt_s, ih (by omega)]
      have et : tb (bits5 (fun j => S 21 (5 * m + j)) ||| bitI (Int32.ofNat m)) j = (decide (S 21 (5 * m + j) = 1) || decide (m = j)) := by
        rw [tb_or, tb_bits5 hz j (by omega), tb_bitI (by omega) (by omega)]
      have key : (if (decide (S 21 (5 * m + j) = 1) || decide (m = j)) = true then 1 else 0) + (if m < j then 1 else 0) = (if decide (S 21 (5 * m + j) = 1) = true then 1 else 0) + (if m < j + 1 then 1 else 0) := by
        by_cases c1 : m = j
        · have z0 := h21 j (by omega) (Or.inl c1.symm)
          have n1 : ¬ S 21 (5 * m + j) = 1 := by rw [z0]; decide
          rw [decide_eq_true c1, Bool.or_true, decide_eq_false n1, if_pos rfl, if_neg (show ¬ m < j by omega), if_pos (show m < j + 1 by omega)]
          rfl
        · have e : (if m < j + 1 then 1 else 0) = (if m < j then 1 else 0) := by
            by_cases z : m < j
            · rw [if_pos z, if_pos (by omega)]
            · rw [if_neg z, if_neg (by omega)]
          rw [decide_eq_false c1, Bool.or_false, e]
      show ycnt (yans S m) j + (if m < j then 1 else 0) + (if tb (bits5 (fun j => S 21 (5 * m + j)) ||| bitI (Int32.ofNat m)) j = true then 1 else 0) = _
      rw [et]
      show _ = ycnt (yans S m) j + (if decide (S 21 (5 * m + j) = 1) = true then 1 else 0) + (if m < j + 1 then 1 else 0)
      omega
  have hany := any_iff (S := S) (F := F) (by omega) (by omega) hm h21 h22
  have ans5 : ycnt (yans S m) 5 = ycnt (yans S m) n := cnt_n hn5 (fun a ha hta => by
    apply Classical.byContradiction
    intro z
    have := h21 a ha (Or.inr (by omega))
    have h1 := of_decide_eq_true hta
    rw [this] at h1
    exact absurd h1 (by decide))
  have hb := best_same (S := S) (F := F) (n := n) (m := m) (by omega) (by omega) h21 h22
  unfold leaseC leaseP
  show (if mostI S ≤ popN (bits5 (fun j => S 21 (5 * m + j)) ||| bitI (Int32.ofNat m)) then (u2 S 23 m 1, u2 F 24 m (FP.fadd (clockC S F m (mostI S - 1) 5) (FP.fmul (F 2 0) (FP.fsub FP.fconst1 (F 3 0))))) else (S, F)) = (if (bestF S F m (nt (S 0 0)) (nt (S 0 0))).1 = true then (u2 S 23 m 1, u2 F 24 m (FP.fadd (bestF S F m (nt (S 0 0)) (nt (S 0 0))).2 (FP.fmul (F 2 0) (FP.fsub FP.fconst1 (F 3 0))))) else (S, F))
  have ep : (mostI S ≤ popN (bits5 (fun j => S 21 (5 * m + j)) ||| bitI (Int32.ofNat m))) = (n / 2 ≤ ycnt (yans S m) n) := by
    rw [most_pop hn (by omega), cnt 5 (Nat.le_refl _), if_pos (show m < 5 by omega), ans5]
    apply propext
    constructor <;> intro z <;> omega
  rw [en, em1, hb]
  by_cases c1 : n / 2 ≤ ycnt (yans S m) n
  · rw [if_pos (by rw [ep]; exact c1), if_pos (hany.mpr c1)]
  · rw [if_neg (by rw [ep]; exact c1), if_neg (fun z => c1 (hany.mp z))]
end SAME5
