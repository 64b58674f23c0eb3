theorem inA_of {h : HP} {a : Nat} {i : Int32} {L : Nat} (hl : hL h a = L) (h0 : 0 ≤ i.toInt) (h1 : i.toInt < L) : inA h a i = true := by
  unfold inA
  rw [hl]
  have : i.toNatClampNeg = i.toInt.toNat := rfl
  simp only [Bool.and_eq_true, decide_eq_true_eq, Int32.le_iff_toInt_le]
  exact ⟨h0, by rw [this]; omega⟩
theorem i_add {x y : Int32} (h1 : -2147483648 ≤ x.toInt + y.toInt) (h2 : x.toInt + y.toInt < 2147483648) : (x + y).toInt = x.toInt + y.toInt := by
  rw [Int32.toInt_add]
  exact Int.bmod_eq_of_le (by omega) (by omega)
theorem i_sub {x y : Int32} (h1 : -2147483648 ≤ x.toInt - y.toInt) (h2 : x.toInt - y.toInt < 2147483648) : (x - y).toInt = x.toInt - y.toInt := by
  rw [Int32.toInt_sub]
  exact Int.bmod_eq_of_le (by omega) (by omega)
theorem i_mul {x y : Int32} (h1 : -2147483648 ≤ x.toInt * y.toInt) (h2 : x.toInt * y.toInt < 2147483648) : (x * y).toInt = x.toInt * y.toInt := by
  rw [Int32.toInt_mul]
  exact Int.bmod_eq_of_le (by omega) (by omega)
theorem i_one : (1 : Int32).toInt = 1 := rfl
theorem i_zero : (0 : Int32).toInt = 0 := rfl
theorem i_neg1 : (-1 : Int32).toInt = -1 := rfl
theorem sub1 {x : Int32} (h : 1 ≤ x.toInt) : (x - 1).toInt = x.toInt - 1 := by
  have := x.toInt_lt
  rw [i_sub (by rw [i_one]; omega) (by rw [i_one]; omega), i_one]
theorem clamp_eq {x : Int32} : x.toNatClampNeg = x.toInt.toNat := rfl
theorem w_at {d : Nat} {h : HP} {Q : Out → HP → Prop} {S : SI} (hs : STR h) (hg : gLog S h) {i : Nat} (hi : i < 5) (h30 : (S 12 i).toInt ≤ 30) {x : Int32} (k : Q (.inl (some (.ref (if 1 ≤ x.toInt ∧ x.toInt ≤ (S 12 i).toInt then hAR h (152 + 12 * i) (x.toInt - 1).toNat else 0)))) h) : WP d mX7_at 0 [some (.ref (151 + 12 * i)), some (.int x)] [] h Q := by
  refine bX7_at_0 ?_
  simp only [st_K_151 hs hi, st_R_700_151 hs hi, st_K_152 hs hi, (hg i hi).1, Int32.lt_iff_toInt_lt, show (1 : Int32).toInt = 1 from rfl]
  refine ⟨fun c => ?_, fun c => ⟨trivial, fun c2 => ?_, fun c2 => ⟨by omega, inA_of (st_L_152 hs hi) ?_ ?_, ?_⟩⟩⟩
  · rw [if_neg (by omega)] at k; exact k
  · rw [if_neg (by omega)] at k; exact k
  · rw [sub1 (by omega)]; omega
  · rw [sub1 (by omega)]; omega
  · rw [if_pos (by omega)] at k
    have e : (x - 1).toNatClampNeg = (x.toInt - 1).toNat := by
      show (x - 1).toInt.toNat = _
      rw [sub1 (by omega)]
    rw [e]; exact k
def b2i (b : Bool) : Int32 := if b = true then 1 else 0
/-- the term of the entry of that number, 0 if there is none -/
def tmAt (S : SI) (i : Nat) (x : Int32) : Int32 := if 1 ≤ x.toInt ∧ x.toInt ≤ (S 12 i).toInt then S 14 (30 * i + (x.toInt - 1).toNat) else 0
theorem w_termAt {d : Nat} {h : HP} {Q : Out → HP → Prop} {S : SI} (hs : STR h) (hg : gLog S h) {i : Nat} (hi : i < 5) (h30 : (S 12 i).toInt ≤ 30) {x : Int32} {u : Option Value} (k : Q (.inl (some (.int (tmAt S i x)))) h) : WP (d + 1) mX7_termAt 0 [some (.ref (151 + 12 * i)), some (.int x), u] [] h Q := by
  refine bX7_termAt_0 ⟨by omega, st_K_151 hs hi, ?_⟩
  refine w_at hs hg hi h30 ?_
  rw [KK_ret]
  refine bX7_termAt_5 ?_
  unfold tmAt at k
  by_cases c : 1 ≤ x.toInt ∧ x.toInt ≤ (S 12 i).toInt
  · rw [if_pos c] at k ⊢
    have en := (hg i hi).2 (x.toInt - 1).toNat (by omega) (by omega)
    refine ⟨fun _ => ⟨en.2.2.1, ?_⟩, fun c2 => absurd (fun q => ?_) c2⟩
    · rw [en.2.2.2.1]; exact k
    · have := en.1
      omega
  · rw [if_neg c] at k ⊢
    exact ⟨fun c2 => absurd rfl c2, fun _ => k⟩
theorem w_outdoes {d : Nat} {h : HP} {Q : Out → HP → Prop} {a : Nat} {t c s v : Int32} (en : EN h a t c s v) {x1 x2 : Int32} (k : Q (.inl (some (.int (b2i (decide (c = x1) && decide (x2 ≤ s)))))) h) : WP d mX3_outdoes 0 [some (.ref a), some (.int x1), some (.int x2)] [] h Q := by
  refine bX3_outdoes_0 ⟨en.2.2.1, ?_⟩
  rw [en.2.2.2.2.1, en.2.2.2.2.2.1]
  refine ⟨fun c1 => ?_, fun c1 => ⟨fun c2 => ?_, fun c2 => ?_⟩⟩
  · simpa [b2i, c1] using k
  · rw [Int32.lt_iff_toInt_lt] at c2
    have : ¬ x2 ≤ s := by rw [Int32.le_iff_toInt_le]; omega
    simpa [b2i, this] using k
  · rw [Int32.lt_iff_toInt_lt] at c2
    have h2 : x2 ≤ s := by rw [Int32.le_iff_toInt_le]; omega
    have h1 : c = x1 := Classical.not_not.mp c1
    simpa [b2i, h1, h2] using k
/-- whether one of the first n entries is of that client with that serial or a greater one -/
def outd (S : SI) (i : Nat) (c s : Int32) : Nat → Bool
  | 0 => false
  | n + 1 => outd S i c s n || (decide (S 15 (30 * i + n) = c) && decide (s ≤ S 16 (30 * i + n)))
theorem outd_mono {S : SI} {i : Nat} {c s : Int32} {j n : Nat} (h : outd S i c s j = true) (hn : j ≤ n) : outd S i c s n = true := by
  induction n with
  | zero =>
    have : j = 0 := by omega
    subst this; exact h
  | succ n ih =>
    by_cases q : j = n + 1
    · subst q; exact h
    · unfold outd
      rw [ih (by omega)]; rfl
theorem of_nat {n : Nat} (h : n < 1000000) : (Int32.ofNat n).toInt = n := Int32.toInt_ofNat_of_lt (by omega)
theorem w_isOutdone_3 {d : Nat} {h : HP} {Q : Out → HP → Prop} {S : SI} (hs : STR h) (hg : gLog S h) {i : Nat} (hi : i < 5) (h30 : (S 12 i).toInt ≤ 30) {c s n : Int32} {B : Nat} (hB : (B : Int) = min n.toInt (S 12 i).toInt) (k : Q (.inl (some (.int (b2i (outd S i c s B))))) h) :
    ∀ (m j : Nat), j + m = B → outd S i c s j = false → WP (d + 1) mX7_isOutdone 3 [some (.ref (151 + 12 * i)), some (.int c), some (.int s), some (.int n), some (.int (Int32.ofNat j))] [] h Q := by
  intro m
  induction m with
  | zero =>
    intro j hj ho
    obtain rfl : j = B := by omega
    rw [ho] at k
    refine bX7_isOutdone_3 ?_
    have e := of_nat (n := j) (by omega)
    simp only [st_K_151 hs hi, (hg i hi).1, Int32.le_iff_toInt_le, e]
    refine ⟨fun _ => k, fun c1 => ⟨trivial, fun _ => k, fun c2 => ?_⟩⟩
    omega
  | succ m ih =>
    intro j hj ho
    refine bX7_isOutdone_3 ?_
    have e := of_nat (n := j) (by omega)
    have e2 : (Int32.ofNat j).toNatClampNeg = j := Int32.toNatClampNeg_ofNat_of_lt (by omega)
    have en := (hg i hi).2 j (by omega) (by omega)
    simp only [st_K_151 hs hi, st_R_700_151 hs hi, st_K_152 hs hi, (hg i hi).1, Int32.le_iff_toInt_le, e, e2, en.2.2.1]
    refine ⟨fun c1 => by omega, fun c1 => ⟨trivial, fun c2 => by omega, fun c2 => ⟨by omega, inA_of (st_L_152 hs hi) (by omega) (by omega), en.1, trivial, ?_⟩⟩⟩
    refine w_outdoes en ?_
    rw [KK_ret]
    refine bX7_isOutdone_30 ?_
    cases hb : (decide (S 15 (30 * i + j) = c) && decide (s ≤ S 16 (30 * i + j))) with
    | true =>
      have : outd S i c s (j + 1) = true := by unfold outd; rw [hb]; simp
      rw [outd_mono this (by omega)] at k
      exact ⟨fun q => absurd q (by decide), fun _ => k⟩
    | false =>
      have h1 := ih (j + 1) (by omega) (by unfold outd; rw [ho, hb]; rfl)
      rw [Int32.ofNat_add] at h1
      exact ⟨fun _ => h1, fun q => absurd rfl q⟩
