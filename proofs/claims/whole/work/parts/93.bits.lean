/-! ===== bits ===== -/
def tb (x : Int32) (i : Nat) : Bool := x.toBitVec.getLsbD i
theorem tb_or {x y : Int32} {i : Nat} : tb (x ||| y) i = (tb x i || tb y i) := BitVec.getLsbD_or
theorem tb_and {x y : Int32} {i : Nat} : tb (x &&& y) i = (tb x i && tb y i) := BitVec.getLsbD_and
theorem tb_o {x i : Nat} : tb (Int32.ofNat x) i = (decide (i < 32) && x.testBit i) := BitVec.getLsbD_ofNat 32 x i
theorem tb_0 {i : Nat} : tb 0 i = false := by
  have : tb (Int32.ofNat 0) i = (decide (i < 32) && Nat.testBit 0 i) := tb_o
  rw [Nat.zero_testBit, Bool.and_false] at this
  exact this
theorem tb_m1 {i : Nat} (hi : i < 32) : tb (-1) i = true := by
  have : ∀ i, i < 32 → tb (-1) i = true := by decide +kernel
  exact this i hi
theorem tb_xor1 {x : Int32} {i : Nat} (hi : i < 32) : tb (x ^^^ (-1)) i = !tb x i := by
  have e : tb (x ^^^ (-1)) i = (tb x i).xor (tb (-1) i) := BitVec.getLsbD_xor
  rw [e, tb_m1 hi, Bool.xor_true]
theorem tb_ext {x y : Int32} (h : ∀ i, i < 32 → tb x i = tb y i) : x = y := Int32.toBitVec.inj (BitVec.eq_of_getLsbD_eq h)
theorem tb_ne0 {x : Int32} (h : ¬ x = 0) : ∃ i, i < 32 ∧ tb x i = true := by
  apply Classical.byContradiction
  intro c
  apply h
  apply tb_ext
  intro i hi
  rw [tb_0]
  cases z : tb x i
  · rfl
  · exact absurd ⟨i, hi, z⟩ c
theorem o_or (a b : Nat) : Int32.ofNat a ||| Int32.ofNat b = Int32.ofNat (a ||| b) := by
  apply tb_ext
  intro i hi
  rw [tb_or, tb_o, tb_o, tb_o, Nat.testBit_or]
  cases decide (i < 32) <;> simp
theorem o_shl (i : Nat) (hi : i < 31) : (1 : Int32) <<< (Int32.ofNat i &&& 31) = Int32.ofNat (2 ^ i) := by
  have : ∀ i, i < 31 → (1 : Int32) <<< (Int32.ofNat i &&& 31) = Int32.ofNat (2 ^ i) := by decide +kernel
  exact this i hi
theorem sh_amt : ∀ i, i < 32 → ((Int32.ofNat i &&& 31).toBitVec.smod 32) = BitVec.ofNat 32 i := by decide +kernel
theorem tb_bit {x : Int32} {i : Nat} (hi : i < 32) : (x >>> (Int32.ofNat i &&& 31)) &&& 1 = if tb x i = true then 1 else 0 := by
  apply Int32.toBitVec.inj
  have e : ((x >>> (Int32.ofNat i &&& 31)) &&& 1).toBitVec = (BitVec.sshiftRight' x.toBitVec ((Int32.ofNat i &&& 31).toBitVec.smod 32)) &&& 1#32 := rfl
  rw [e, sh_amt i hi, BitVec.and_one_eq_setWidth_ofBool_getLsbD]
  have e2 : (BitVec.sshiftRight' x.toBitVec (BitVec.ofNat 32 i)).getLsbD 0 = tb x i := by
    have e3 : (BitVec.ofNat 32 i).toNat = i := by
      rw [BitVec.toNat_ofNat]
      exact Nat.mod_eq_of_lt (by omega)
    show (BitVec.sshiftRight x.toBitVec (BitVec.ofNat 32 i).toNat).getLsbD 0 = _
    rw [e3, BitVec.getLsbD_sshiftRight]
    simp [hi, tb]
  rw [e2]
  cases tb x i <;> rfl
theorem tb_bit1 {x : Int32} {i : Nat} (hi : i < 32) : ((x >>> (Int32.ofNat i &&& 31)) &&& 1 = 1) = (tb x i = true) := by
  rw [tb_bit hi]
  cases tb x i <;> simp
theorem tb_bit0 {x : Int32} {i : Nat} (hi : i < 32) : ((x >>> (Int32.ofNat i &&& 31)) &&& 1 = 0) = (tb x i = false) := by
  rw [tb_bit hi]
  cases tb x i <;> simp
theorem o_bit1 (x i : Nat) (hi : i < 32) : ((Int32.ofNat x >>> (Int32.ofNat i &&& 31)) &&& 1 = 1) = (x.testBit i = true) := by
  rw [tb_bit1 hi, tb_o, decide_eq_true hi, Bool.true_and]
theorem o_bit0 (x i : Nat) (hi : i < 32) : ((Int32.ofNat x >>> (Int32.ofNat i &&& 31)) &&& 1 = 0) = (x.testBit i = false) := by
  rw [tb_bit0 hi, tb_o, decide_eq_true hi, Bool.true_and]
theorem tb_bitI {i j : Nat} (hi : i < 31) (hj : j < 32) : tb (bitI (Int32.ofNat i)) j = decide (i = j) := by
  have e : bitI (Int32.ofNat i) = Int32.ofNat (2 ^ i) := o_shl i hi
  rw [e, tb_o, decide_eq_true hj, Bool.true_and, Nat.testBit_two_pow]
