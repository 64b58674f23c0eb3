/-! ===== the class's way and the reference's: a delivery ===== -/
section SAME6
variable {st n na : Nat} {g : YG} {pa : Nat → ZA} {pv : Nat → ZV} {S S' : SI} {F F' : SF} {m : Nat} {w : RW} {c : UInt32}
theorem acked_same (hst : st < 2000) (h : INVw st n na g pa pv S F) (hm : m < n) (hw2 : w 2 = Int32.ofNat m) (hw0 : w 0 = 3) (hK : MOK n st (tmS S) g (blS S) pa pv w c) : ackedC (S, F) m w c = ackedP (S, F) m w c := by
  obtain ⟨⟨a1, a2, a3, s0, a4, a5⟩, hM, hC, ⟨hR1, hR2, hR3, hR4, hR5, hR6⟩, hP, hZ, hE, hH, hX, _⟩ := id h
  have n5 : n ≤ 5 := by omega
  obtain ⟨kd, f, m', k0, k7, k1, kf, k2, km, kfm, kc, kA, _⟩ := hK
  have hkd : kd = 3 := o_inj (k0.symm.trans hw0) (by omega) (by omega)
  subst hkd
  have hmm : m' = m := o_inj (k2.symm.trans hw2) (by omega) (by omega)
  subst hmm
  obtain ⟨t, b1, b2, b3, _, _, _, b7⟩ := kA (by omega)
  obtain ⟨x, x1, x2, x3, x4⟩ := b7 rfl
  obtain ⟨_, ⟨t0, ht0, ht0st⟩, _⟩ := hM m' (by omega)
  have etm : tmS S m' = t0 := nt_of ht0 (by omega)
  have enf : nt (w 1) = f := nt_of k1 (by omega)
  unfold ackedC ackedP
  split
  · rfl
  · rename_i nc
    have c11 : S 11 m' = 2 := Classical.byContradiction fun z => nc (Or.inl z)
    have c9 : w 3 = S 9 m' := Classical.byContradiction fun z => nc (Or.inr z)
    have ett : t = t0 := o_inj (b1.symm.trans (c9.trans ht0)) (by omega) (by omega)
    subst ett
    split
    · rfl
    · rename_i c7
      obtain ⟨_, xa⟩ := x3 c7
      have s1 := inv_same h hm kf kfm k1 x1 x2 (by rw [etm]; exact xa) c11
      have l1 : sameS S m' w 11 m' = 2 := (same_ne (by decide)).trans c11
      have s2 := inv_commit s1 hst hm l1
      have l2 : commitS (sameS S m' w) m' 11 m' = 2 := (com_ne (Or.inl (by decide))).trans l1
      have s3 := inv_clock (c := c) s2 hm kf kfm k1 kc
      obtain ⟨⟨l, hl, hl30, c0, hc0, hc0l⟩, _⟩ := s1.2.1 m' (by omega)
      have q1 := (s1.2.2.2.1.2.2.2.1 m' hm l1).2.2.1
      have n1 : sameS S m' w 0 0 = Int32.ofNat n := s1.1.1
      have e1 : cmtC (sameS S m' w) m' (nt (sameS S m' w 12 m')) = commitS (sameS S m' w) m' := by
        rw [nt_of hl (by omega), cmt_same n1 n5 hm hc0 (by omega) (fun o ho => by obtain ⟨s, u1, u2, u3, _⟩ := q1 o ho; exact ⟨s, u1, u2, u3⟩) l hl30]
        unfold commitS
        rw [nt_of n1 (by omega), nt_of hl (by omega)]
      show leaseC (u2 (cmtC (sameS S m' w) m' (nt (sameS S m' w 12 m'))) 21 (5 * m' + nt (w 1)) 1, u2 F 22 (5 * m' + nt (w 1)) (tkF (cmtC (sameS S m' w) m' (nt (sameS S m' w 12 m'))) F m' (nt (w 1)) c)) m' = leaseP (clockP (commitS (sameS S m' w) m', F) m' w c) m'
      rw [e1]
      generalize commitS (sameS S m' w) m' = S2 at *
      have hL2 := s2.2.2.2.2.2.2.2.2.2
      have e2 : tkF S2 F m' (nt (w 1)) c = (if S2 21 (5 * m' + nt (w 1)) = 1 ∧ 0 < Op.cmpValue (FP.fcmp (F 22 (5 * m' + nt (w 1))) c) .l then F 22 (5 * m' + nt (w 1)) else c) := by
        rw [enf]
        exact tk_same kc (fun z => hL2.2.2.2.2.1 _ (by omega) z) (s2.2.2.1 _ (by omega)).2
      rw [e2]
      have e3 : (u2 S2 21 (5 * m' + nt (w 1)) 1, u2 F 22 (5 * m' + nt (w 1)) (if S2 21 (5 * m' + nt (w 1)) = 1 ∧ 0 < Op.cmpValue (FP.fcmp (F 22 (5 * m' + nt (w 1))) c) .l then F 22 (5 * m' + nt (w 1)) else c)) = clockP (S2, F) m' w c := rfl
      rw [e3]
      have l3 : (clockP (S2, F) m' w c).1 11 m' = 2 := by
        show u2 S2 21 (5 * m' + nt (w 1)) 1 11 m' = 2
        rw [u2_ne (by omega)]
        exact l2
      have q3 := s3.2.2.2.1.2.2.2.1 m' hm l3
      exact lease_same (S := (clockP (S2, F) m' w c).1) (F := (clockP (S2, F) m' w c).2) s3.1.1 s3.1.2.1 hm (fun o ho => (s3.2.2.1 _ (by omega)).2) q3.2.2.2 (fun o ho hz => s3.2.2.2.2.2.2.2.2.2.2.2.2.2.1 _ (by omega) hz)
theorem counts_same (hst : st < 2000) (h : INV st n na g pa pv S F) (hm : m < n) (hw2 : w 2 = Int32.ofNat m) (hw0 : w 0 = 7) (hK : MOK n st (tmS S) g (blS S) pa pv w c) : countsC S m w = countsS S m w := by
  obtain ⟨_, key⟩ := inv_counts hst h hm hw2 hw0 hK
  unfold countsC countsS
  dsimp only
  split
  · rename_i cc
    rw [u2_eq]
    by_cases c1 : mostI S ≤ popN (S 36 (4 * m + nt (w 6)) ||| bitI (w 1))
    · rw [if_pos c1]
      by_cases c2 : S 30 (4 * m + nt (w 6)) = -1
      · rw [if_pos ⟨c1, c2⟩]
      · rw [if_neg (fun z => c2 z.2)]
        have e := key _ ⟨cc.1, cc.2, c1⟩ c2 rfl
        rw [← e]
        funext s k
        show (if s = 30 ∧ k = 4 * m + nt (w 6) then S 30 (4 * m + nt (w 6)) else u2 S 36 (4 * m + nt (w 6)) (S 36 (4 * m + nt (w 6)) ||| bitI (w 1)) s k) = _
        split
        · rename_i y
          obtain ⟨rfl, rfl⟩ := y
          rw [u2_ne (by omega)]
        · rfl
    · rw [if_neg c1, if_neg (fun z => c1 z.1)]
  · rfl
theorem num_iff {i : Nat} {cl s : Int32} {cm : Nat} : ∀ (m j : Nat), cm ≤ j + m → ((1 ≤ numG S i cl s j m ∧ numG S i cl s j m ≤ cm) ↔ ∃ k, j ≤ k ∧ k < cm ∧ S 15 (30 * i + k) = cl ∧ S 16 (30 * i + k) = s) := by
  intro m
  induction m with
  | zero =>
    intro j hj
    constructor
    · rintro ⟨h, _⟩
      have e : numG S i cl s j 0 = 0 := rfl
      omega
    · rintro ⟨k, h1, h2, _⟩; omega
  | succ m ih =>
    intro j hj
    have e : numG S i cl s j (m + 1) = if S 15 (30 * i + j) = cl ∧ S 16 (30 * i + j) = s then j + 1 else numG S i cl s (j + 1) m := rfl
    rw [e]
    by_cases c1 : S 15 (30 * i + j) = cl ∧ S 16 (30 * i + j) = s
    · rw [if_pos c1]
      constructor
      · rintro ⟨_, h2⟩; exact ⟨j, Nat.le_refl _, by omega, c1⟩
      · rintro ⟨k, h1, h2, _⟩; exact ⟨by omega, by omega⟩
    · rw [if_neg c1, ih (j + 1) (by omega)]
      constructor
      · rintro ⟨k, h1, h2⟩; exact ⟨k, by omega, h2⟩
      · rintro ⟨k, h1, h2, h3⟩
        by_cases z : k = j
        · subst z; exact absurd h3 c1
        · exact ⟨k, by omega, h2, h3⟩
/-- what the first j machines answer, at once -/
def ansE (S : SI) (k : Nat) : Nat → Bool
  | 0 => false
  | j + 1 => ansE S k j || (decide (S 11 j = 2) && agrC S j k)
def ansX (S : SI) (na j : Nat) : SI := fun s k => if s = 46 ∧ (k < na ∧ S 41 k = 1 ∧ S 46 k = -1 ∧ ansE S k j = true) then S 4 0 else S s k
theorem ansE_iff {k : Nat} : ∀ j, ansE S k j = true ↔ ∃ i, i < j ∧ S 11 i = 2 ∧ agrC S i k = true := by
  intro j
  induction j with
  | zero =>
    constructor
    · intro h; exact absurd (show false = true from h) (by decide)
    · rintro ⟨i, h, _⟩; omega
  | succ j ih =>
    show (ansE S k j || (decide (S 11 j = 2) && agrC S j k)) = true ↔ _
    rw [Bool.or_eq_true, Bool.and_eq_true, decide_eq_true_iff, ih]
    constructor
    · rintro (⟨i, h1, h2⟩ | h)
      · exact ⟨i, by omega, h2⟩
      · exact ⟨j, by omega, h⟩
    · rintro ⟨i, h1, h2⟩
      by_cases z : i = j
      · subst z; exact Or.inr h2
      · exact Or.inl ⟨i, by omega, h2⟩
theorem ansX_ne {na j s k : Nat} (h : s ≠ 46) : ansX S na j s k = S s k := if_neg (fun w => h w.1)
theorem ansX_46 {na j k : Nat} : ansX S na j 46 k = if k < na ∧ S 41 k = 1 ∧ S 46 k = -1 ∧ ansE S k j = true then S 4 0 else S 46 k := by
  unfold ansX
  by_cases c : k < na ∧ S 41 k = 1 ∧ S 46 k = -1 ∧ ansE S k j = true
  · rw [if_pos ⟨rfl, c⟩, if_pos c]
  · rw [if_neg (fun z => c z.2), if_neg c]
theorem ansA_X (h4 : S 4 0 ≠ -1) : ∀ j, ansA na j S = ansX S na j := by
  intro j
  induction j with
  | zero =>
    funext s k
    unfold ansX
    rw [if_neg (fun z => absurd (show false = true from z.2.2.2.2) (by decide))]
    rfl
  | succ j ih =>
    have e : ansA na (j + 1) S = if ansA na j S 11 j = 2 then ansS (ansA na j S) j na else ansA na j S := rfl
    have eE : ∀ k, ansE S k (j + 1) = (ansE S k j || (decide (S 11 j = 2) && agrC S j k)) := fun _ => rfl
    rw [e, ih, ansX_ne (by decide)]
    funext s k
    by_cases c11 : S 11 j = 2
    · rw [if_pos c11]
      by_cases z : s = 46
      · subst z
        have ea : agrC (ansX S na j) j k = agrC S j k := by
          unfold agrC
          rw [ansX_ne (by decide), ansX_ne (by decide), ansX_ne (by decide), ansX_ne (by decide), numG_congr (S := S) (funext fun x => ansX_ne (by decide)) (funext fun x => ansX_ne (by decide))]
        have e41 : ansX S na j 41 k = S 41 k := ansX_ne (by decide)
        have e4 : ansX S na j 4 0 = S 4 0 := ansX_ne (by decide)
        unfold ansS
        rw [e41, e4, ea, ansX_46, ansX_46, eE, decide_eq_true c11, Bool.true_and]
        by_cases p : k < na ∧ S 41 k = 1 ∧ S 46 k = -1
        · obtain ⟨p1, p2, p3⟩ := p
          cases u : ansE S k j
          · cases v : agrC S j k
            · have n1 : ¬ (k < na ∧ S 41 k = 1 ∧ S 46 k = -1 ∧ false = true) := fun y => absurd y.2.2.2 (by decide)
              have n2 : ¬ (k < na ∧ S 41 k = 1 ∧ S 46 k = -1 ∧ (false || false) = true) := fun y => absurd y.2.2.2 (by decide)
              rw [if_neg n1, if_neg n2, if_neg (fun y => absurd y.2.2.2.2 (by decide))]
            · have n1 : ¬ (k < na ∧ S 41 k = 1 ∧ S 46 k = -1 ∧ false = true) := fun y => absurd y.2.2.2 (by decide)
              rw [if_neg n1, if_pos ⟨rfl, p1, p2, p3, rfl⟩, if_pos ⟨p1, p2, p3, rfl⟩]
          · have n1 : k < na ∧ S 41 k = 1 ∧ S 46 k = -1 ∧ true = true := ⟨p1, p2, p3, rfl⟩
            rw [if_pos n1, if_neg (fun y => h4 y.2.2.2.1), Bool.true_or, if_pos n1]
        · have n1 : ¬ (k < na ∧ S 41 k = 1 ∧ S 46 k = -1 ∧ ansE S k j = true) := fun y => p ⟨y.1, y.2.1, y.2.2.1⟩
          have n2 : ¬ (k < na ∧ S 41 k = 1 ∧ S 46 k = -1 ∧ (ansE S k j || agrC S j k) = true) := fun y => p ⟨y.1, y.2.1, y.2.2.1⟩
          rw [if_neg n1, if_neg n2, if_neg (fun y => p ⟨y.2.1, y.2.2.1, y.2.2.2.1⟩)]
      · rw [ansS_ne z, ansX_ne z, ansX_ne z]
    · rw [if_neg c11]
      unfold ansX
      rw [eE, decide_eq_false c11, Bool.false_and, Bool.or_false]
theorem ans_ends (h : INVw st n na g pa pv S F) (hst : st < 2000) : ansA na n S = endsS S := by
  obtain ⟨⟨a1, a2, a3, s0, a4, a5⟩, hM, _, _, _, _, _, ⟨⟨h14, _⟩, _⟩, _⟩ := h
  have h4 : S 4 0 ≠ -1 := by rw [a4, Ne, o_ne1 _ (by omega)]; exact id
  rw [ansA_X h4]
  funext s k
  unfold ansX endsS
  have en0 : nt (S 0 0) = n := nt_of a1 (by omega)
  have eq : (ansE S k n = true) = (agrB S k = true) := by
    apply propext
    rw [ansE_iff, agrB_iff, en0]
    constructor
    · rintro ⟨i, h1, h2, h3⟩
      obtain ⟨⟨l, b1, b2, cm, b3, b4⟩, _⟩ := hM i (by omega)
      unfold agrC at h3
      rw [decide_eq_true_iff, nt_of b1 (by omega), b3, o_i _ (by omega)] at h3
      obtain ⟨x, x1, x2, x3, x4⟩ := (num_iff (S := S) (i := i) (cl := S 42 k) (s := S 43 k) (cm := cm) l 0 (by omega)).mp ⟨h3.1, by have := h3.2; omega⟩
      exact ⟨i, h1, x, by rw [b3, nt_of rfl (by omega)]; exact x2, h2, x3, x4⟩
    · rintro ⟨i, h1, x, x2, h2, x3, x4⟩
      obtain ⟨⟨l, b1, b2, cm, b3, b4⟩, _⟩ := hM i (by omega)
      rw [b3, nt_of rfl (by omega)] at x2
      have := (num_iff (S := S) (i := i) (cl := S 42 k) (s := S 43 k) (cm := cm) l 0 (by omega)).mpr ⟨x, by omega, x2, x3, x4⟩
      refine ⟨i, h1, h2, ?_⟩
      unfold agrC
      rw [decide_eq_true_iff, nt_of b1 (by omega), b3, o_i _ (by omega)]
      exact ⟨this.1, by have := this.2; omega⟩
  have en : nt (S 47 0) = na := nt_of a3 (by omega)
  rw [en]
  by_cases c1 : s = 46 ∧ (k < na ∧ S 41 k = 1 ∧ S 46 k = -1 ∧ agrB S k = true)
  · rw [if_pos c1, if_pos ⟨c1.1, c1.2.1, c1.2.2.1, c1.2.2.2.1, by rw [eq]; exact c1.2.2.2.2⟩]
  · rw [if_neg c1, if_neg (fun z => c1 ⟨z.1, z.2.1, z.2.2.1, z.2.2.2.1, by rw [← eq]; exact z.2.2.2.2⟩)]
end SAME6
