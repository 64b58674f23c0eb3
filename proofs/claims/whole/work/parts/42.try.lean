theorem inA_of {h : HP} {a : Nat} {i : Int32} {L : Nat} (hl : hL h a = L) (h0 : 0 ≤ i.toInt) (h1 : i.toInt < L) : inA h a i = true := by
  unfold inA
  rw [hl]
  have : i.toNatClampNeg = i.toInt.toNat := rfl
  simp only [Bool.and_eq_true, decide_eq_true_eq, Int32.le_iff_toInt_le]
  exact ⟨h0, by rw [this]; omega⟩
theorem i_add {x y : Int32} (h1 : -2147483648 ≤ x.toInt + y.toInt) (h2 : x.toInt + y.toInt < 2147483648) : (x + y).toInt = x.toInt + y.toInt := by
  rw [Int32.toInt_add]
  exact Int.bmod_eq_of_le (by omega) (by omega)
theorem i_sub {x y : Int32} (h1 : -2147483648 ≤ x.toInt - y.toInt) (h2 : x.toInt - y.toInt < 2147483648) : (x - y).toInt = x.toInt - y.toInt := by
  rw [Int32.toInt_sub]
  exact Int.bmod_eq_of_le (by omega) (by omega)
theorem i_mul {x y : Int32} (h1 : -2147483648 ≤ x.toInt * y.toInt) (h2 : x.toInt * y.toInt < 2147483648) : (x * y).toInt = x.toInt * y.toInt := by
  rw [Int32.toInt_mul]
  exact Int.bmod_eq_of_le (by omega) (by omega)
theorem i_one : (1 : Int32).toInt = 1 := rfl
theorem i_zero : (0 : Int32).toInt = 0 := rfl
theorem i_neg1 : (-1 : Int32).toInt = -1 := rfl
theorem sub1 {x : Int32} (h : 1 ≤ x.toInt) : (x - 1).toInt = x.toInt - 1 := by
  have := x.toInt_lt
  rw [i_sub (by rw [i_one]; omega) (by rw [i_one]; omega), i_one]
theorem clamp_eq {x : Int32} : x.toNatClampNeg = x.toInt.toNat := rfl
theorem w_at {d : Nat} {h : HP} {Q : Out → HP → Prop} {S : SI} (hs : STR h) (hg : gLog S h) {i : Nat} (hi : i < 5) (h30 : (S 12 i).toInt ≤ 30) {x : Int32} (k : Q (.inl (some (.ref (if 1 ≤ x.toInt ∧ x.toInt ≤ (S 12 i).toInt then hAR h (152 + 12 * i) (x.toInt - 1).toNat else 0)))) h) : WP d mX7_at 0 [some (.ref (151 + 12 * i)), some (.int x)] [] h Q := by
  refine bX7_at_0 ?_
  simp only [st_K_151 hs hi, st_R_700_151 hs hi, st_K_152 hs hi, (hg i hi).1, Int32.lt_iff_toInt_lt, show (1 : Int32).toInt = 1 from rfl]
  refine ⟨fun c => ?_, fun c => ⟨trivial, fun c2 => ?_, fun c2 => ⟨by omega, inA_of (st_L_152 hs hi) ?_ ?_, ?_⟩⟩⟩
  · rw [if_neg (by omega)] at k; exact k
  · rw [if_neg (by omega)] at k; exact k
  · rw [sub1 (by omega)]; omega
  · rw [sub1 (by omega)]; omega
  · rw [if_pos (by omega)] at k
    have e : (x - 1).toNatClampNeg = (x.toInt - 1).toNat := by
      show (x - 1).toInt.toNat = _
      rw [sub1 (by omega)]
    rw [e]; exact k
