/-! ===== floats that are no NaN and not below 0 ===== -/
def fpF (x : UInt32) : Prop := x.toNat ≤ 2139095040
def fpQ (x : UInt32) : Prop := x.toNat < 2139095040
theorem fpQ.pf {x : UInt32} (h : fpQ x) : fpF x := Nat.le_of_lt h
theorem b32_t : FP.Core.b32.tails = 8388608 := by decide
theorem b32_e : FP.Core.b32.exps = 256 := by decide
def fpos (d : FP.Core.Datum) : Prop := d = .inf false ∨ ∃ c q, d = .fin false c q
theorem val_dec {x : UInt32} : FP.Core.val32 x = FP.Core.decode FP.Core.b32 x.toNat := rfl
theorem PF_iff {x : UInt32} : fpF x ↔ fpos (FP.Core.val32 x) := by
  have hx := x.toNat_lt
  rw [val_dec]
  unfold FP.Core.decode FP.Core.fieldE FP.Core.fieldT FP.Core.fieldS
  rw [b32_t, b32_e]
  unfold fpF
  generalize x.toNat = n at *
  constructor
  · intro h
    have hs : (n / 8388608 / 256 % 2 == 1) = false := by
      rw [beq_eq_false_iff_ne]
      omega
    rw [hs]
    split
    · rw [if_pos (by omega)]; exact Or.inl rfl
    · split
      · exact Or.inr ⟨_, _, rfl⟩
      · exact Or.inr ⟨_, _, rfl⟩
  · intro h
    by_cases hs : (n / 8388608 / 256 % 2 == 1) = true
    · rw [hs] at h
      split at h
      · split at h
        · rcases h with h | ⟨c, q, h⟩ <;> cases h
        · rcases h with h | ⟨c, q, h⟩ <;> cases h
      · split at h
        · rcases h with h | ⟨c, q, h⟩ <;> cases h
        · rcases h with h | ⟨c, q, h⟩ <;> cases h
    · have hs' : ¬ n / 8388608 / 256 % 2 = 1 := fun z => hs (by rw [z]; rfl)
      split at h
      · split at h
        · omega
        · rcases h with h | ⟨c, q, h⟩ <;> cases h
      · omega
theorem PQ_fin {x : UInt32} (h : fpQ x) : ∃ c q, FP.Core.val32 x = .fin false c q := by
  have hx := x.toNat_lt
  rw [val_dec]
  unfold FP.Core.decode FP.Core.fieldE FP.Core.fieldT FP.Core.fieldS
  rw [b32_t, b32_e]
  unfold fpQ at h
  generalize x.toNat = n at *
  have hs : (n / 8388608 / 256 % 2 == 1) = false := by
    rw [beq_eq_false_iff_ne]
    omega
  rw [hs]
  rw [if_neg (by omega)]
  split
  · exact ⟨_, _, rfl⟩
  · exact ⟨_, _, rfl⟩
theorem PF_val {x : UInt32} (h : fpF x) : FP.Core.val32 x ≠ .nan := by
  rcases PF_iff.mp h with h | ⟨c, q, h⟩ <;> rw [h] <;> intro z <;> cases z
theorem nn_val {x : UInt32} (h : FP.Core.val32 x ≠ .nan) : nn32 x = true := by
  have hx := x.toNat_lt
  rw [val_dec] at h
  unfold FP.Core.decode FP.Core.fieldE FP.Core.fieldT FP.Core.fieldS at h
  rw [b32_t, b32_e] at h
  unfold nn32
  apply decide_eq_true
  rw [UInt32.le_iff_toNat_le, UInt32.toNat_and]
  have e : (2147483647 : UInt32).toNat = 2 ^ 31 - 1 := rfl
  have e2 : (2139095040 : UInt32).toNat = 2139095040 := rfl
  rw [e, e2, Nat.and_two_pow_sub_one_eq_mod]
  generalize x.toNat = n at *
  split at h
  · split at h
    · omega
    · exact absurd rfl h
  · omega
theorem fpF.nn {x : UInt32} (h : fpF x) : nn32 x = true := nn_val (PF_val h)
theorem fpos_settle {f : FP.Core.Fmt} {c : Nat} {q : Int} : fpos (FP.Core.settle f false c q) := by
  unfold FP.Core.settle FP.Core.bound
  split <;> split <;> first | exact Or.inr ⟨_, _, rfl⟩ | exact Or.inl rfl
theorem fpos_ratio {f : FP.Core.Fmt} {a b : Nat} {e : Int} : fpos (FP.Core.roundRatio f false a b e) := by
  unfold FP.Core.roundRatio
  split
  · exact Or.inr ⟨_, _, rfl⟩
  · unfold FP.Core.roundAt
    exact fpos_settle
theorem fpos_round {f : FP.Core.Fmt} {d : FP.Core.Datum} (h : fpos d) : fpos (FP.Core.round f d) := by
  rcases h with h | ⟨c, q, h⟩
  · rw [h]; exact Or.inl rfl
  · rw [h]; exact fpos_ratio
theorem fpos_sum {d e : FP.Core.Datum} (h : fpos d) (k : fpos e) : fpos (FP.Core.exactSum d e) := by
  rcases h with h | ⟨c, q, h⟩ <;> rcases k with k | ⟨c2, q2, k⟩ <;> rw [h, k]
  · exact Or.inl rfl
  · exact Or.inl rfl
  · exact Or.inl rfl
  · right
    have hv : ¬ FP.Core.sumUnits false c q false c2 q2 (min q q2) < 0 := by
      unfold FP.Core.sumUnits FP.Core.signed
      simp only [Bool.false_eq_true, if_false]
      omega
    have hs : FP.Core.sumSign false false (FP.Core.sumUnits false c q false c2 q2 (min q q2)) = false := by
      unfold FP.Core.sumSign
      split
      · rfl
      · exact decide_eq_false hv
    refine ⟨(FP.Core.sumUnits false c q false c2 q2 (min q q2)).natAbs, min q q2, ?_⟩
    show FP.Core.Datum.fin (FP.Core.sumSign false false _) _ _ = _
    rw [hs]
theorem PF_add {a b : UInt32} (ha : fpF a) (hb : fpF b) : fpF (FP.fadd a b) := by
  rw [PF_iff]
  show fpos (FP.Core.val32 (FP.Core.fadd a b))
  rw [FP.Core.val32_fadd]
  exact fpos_round (fpos_sum (PF_iff.mp ha) (PF_iff.mp hb))
theorem PF_mul {a b : UInt32} (ha : fpQ a) (hb : fpQ b) : fpF (FP.fmul a b) := by
  rw [PF_iff]
  show fpos (FP.Core.val32 (FP.Core.fmul a b))
  rw [FP.Core.val32_fmul]
  obtain ⟨c, q, h⟩ := PQ_fin ha
  obtain ⟨c2, q2, h2⟩ := PQ_fin hb
  rw [h, h2]
  exact fpos_round (Or.inr ⟨c * c2, q + q2, rfl⟩)
/-- no NaN: a number divided by one that is not 0 -/
theorem nn_div {y : Int32} {c : UInt32} {s : Bool} {d : Nat} {r : Int} (hc : FP.Core.val32 c = .fin s d r) (hd : d ≠ 0) : nn32 (FP.fdiv (FP.i2f y) c) = true := by
  apply nn_val
  show FP.Core.val32 (FP.Core.fdiv (FP.Core.i2f y) c) ≠ .nan
  rw [FP.Core.val32_fdiv, FP.Core.val32_i2f, hc]
  have nor : ∀ (s : Bool) (a b : Nat) (e : Int), FP.Core.roundRatio FP.Core.b32 s a b e ≠ .nan := by
    intro s a b e
    unfold FP.Core.roundRatio
    split
    · intro z; cases z
    · unfold FP.Core.roundAt FP.Core.settle FP.Core.bound
      split <;> split <;> intro z <;> cases z
  have e : FP.Core.round FP.Core.b32 (FP.Core.ofInt y.toInt) = FP.Core.roundRatio FP.Core.b32 (decide (y.toInt < 0)) y.toInt.natAbs 1 0 := rfl
  rw [e]
  cases h : FP.Core.roundRatio FP.Core.b32 (decide (y.toInt < 0)) y.toInt.natAbs 1 0 with
  | nan => exact absurd h (nor _ _ _ _)
  | inf t => intro z; cases z
  | fin t c2 q2 =>
    show (if d = 0 then (if c2 = 0 then FP.Core.Datum.nan else .inf (t != s)) else FP.Core.roundRatio FP.Core.b32 (t != s) c2 d (q2 - r)) ≠ .nan
    rw [if_neg hd]
    exact nor _ _ _ _
theorem nn_10 (y : Int32) : nn32 (FP.fdiv (FP.i2f y) (1092616192 : UInt32)) = true := nn_div (s := false) (d := 10485760) (r := -20) (by decide +kernel) (by decide)
theorem nn_100 (y : Int32) : nn32 (FP.fdiv (FP.i2f y) (1120403456 : UInt32)) = true := nn_div (s := false) (d := 13107200) (r := -17) (by decide +kernel) (by decide)
theorem nn_1000 (y : Int32) : nn32 (FP.fdiv (FP.i2f y) (1148846080 : UInt32)) = true := nn_div (s := false) (d := 16384000) (r := -14) (by decide +kernel) (by decide)
theorem PQ_c0 : fpQ FP.fconst0 := by unfold fpQ; decide
theorem PQ_c1 : fpQ FP.fconst1 := by unfold fpQ; decide
theorem PQ_10 : fpQ (0x41200000 : UInt32) := by unfold fpQ; decide
set_option maxRecDepth 20000 in
theorem e_10 : ∀ y, y < 1001 → 1 ≤ y → (FP.fdiv (FP.i2f (Int32.ofNat y)) (1092616192 : UInt32)).toNat < 2139095040 := by decide +kernel
set_option maxRecDepth 20000 in
theorem e_1000 : ∀ y, y < 1501 → 500 ≤ y → (FP.fdiv (FP.i2f (Int32.ofNat y)) (1148846080 : UInt32)).toNat < 2139095040 := by decide +kernel
theorem e_100 : ∀ y, y < 91 → (FP.fsub FP.fconst1 (FP.fdiv (FP.i2f (Int32.ofNat y)) (1120403456 : UInt32))).toNat < 2139095040 := by decide +kernel
theorem i_of {y : Int32} {a b : Nat} (h : (a : Int) ≤ y.toInt ∧ y.toInt ≤ b) (hb : b < 100000) : ∃ k, y = Int32.ofNat k ∧ a ≤ k ∧ k ≤ b := by
  obtain ⟨k, h1, h2, h3⟩ := o_of (x := y) (b := b) (by omega) h.2
  exact ⟨k, h1, by omega, by omega⟩
theorem PQ_time {y : Int32} (h : 1 ≤ y.toInt ∧ y.toInt ≤ 1000) : fpQ (FP.fdiv (FP.i2f y) (1092616192 : UInt32)) := by
  obtain ⟨k, rfl, h1, h2⟩ := i_of (a := 1) (b := 1000) h (by omega)
  exact e_10 k (by omega) h1
theorem PQ_rate {y : Int32} (h : 500 ≤ y.toInt ∧ y.toInt ≤ 1500) : fpQ (FP.fdiv (FP.i2f y) (1148846080 : UInt32)) := by
  obtain ⟨k, rfl, h1, h2⟩ := i_of (a := 500) (b := 1500) h (by omega)
  exact e_1000 k (by omega) h1
theorem PQ_bound {y : Int32} (h : 0 ≤ y.toInt ∧ y.toInt ≤ 90) : fpQ (FP.fsub FP.fconst1 (FP.fdiv (FP.i2f y) (1120403456 : UInt32))) := by
  obtain ⟨k, rfl, h1, h2⟩ := i_of (a := 0) (b := 90) h (by omega)
  exact e_100 k (by omega)
theorem PQ_1m0 : fpQ (FP.fsub FP.fconst1 FP.fconst0) := by unfold fpQ; decide +kernel
/-! comparisons -/
theorem PF_key {a : UInt32} (ha : fpF a) : FP.Core.fkey a = (a.toNat : Int) := by
  unfold FP.Core.fkey
  unfold fpF at ha
  rw [if_neg (by omega)]
theorem PF_cmp {a b : UInt32} (ha : fpF a) (hb : fpF b) : FP.fcmp a b = some (compare (a.toNat : Int) (b.toNat : Int)) := by
  show FP.Core.fcmp a b = _
  rw [FP.Core.fcmp_key (PF_val ha) (PF_val hb), PF_key ha, PF_key hb]
theorem cv_gt {a b : UInt32} (ha : fpF a) (hb : fpF b) : (0 < Op.cmpValue (FP.fcmp a b) .l) = (b.toNat < a.toNat) := by
  rw [PF_cmp ha hb]
  by_cases c : b.toNat < a.toNat
  · have : compare (a.toNat : Int) (b.toNat : Int) = .gt := Int.compare_eq_gt.mpr (by omega)
    rw [this, eq_true c]
    exact eq_true (by decide)
  · rw [eq_false c]
    by_cases d : a.toNat < b.toNat
    · have : compare (a.toNat : Int) (b.toNat : Int) = .lt := Int.compare_eq_lt.mpr (by omega)
      rw [this]
      exact eq_false (by decide)
    · have : compare (a.toNat : Int) (b.toNat : Int) = .eq := Int.compare_eq_eq.mpr (by omega)
      rw [this]
      exact eq_false (by decide)
theorem cv_ge {a b : UInt32} (ha : fpF a) (hb : fpF b) : (0 ≤ Op.cmpValue (FP.fcmp a b) .l) = (b.toNat ≤ a.toNat) := by
  rw [PF_cmp ha hb]
  by_cases c : b.toNat < a.toNat
  · have : compare (a.toNat : Int) (b.toNat : Int) = .gt := Int.compare_eq_gt.mpr (by omega)
    rw [this, eq_true (show b.toNat ≤ a.toNat by omega)]
    exact eq_true (by decide)
  · by_cases d : a.toNat < b.toNat
    · have : compare (a.toNat : Int) (b.toNat : Int) = .lt := Int.compare_eq_lt.mpr (by omega)
      rw [this, eq_false (show ¬ b.toNat ≤ a.toNat by omega)]
      exact eq_false (by decide)
    · have : compare (a.toNat : Int) (b.toNat : Int) = .eq := Int.compare_eq_eq.mpr (by omega)
      rw [this, eq_true (show b.toNat ≤ a.toNat by omega)]
      exact eq_true (by decide)
theorem cv_le {a b : UInt32} (ha : fpF a) (hb : fpF b) : (Op.cmpValue (FP.fcmp a b) .l ≤ 0) = (a.toNat ≤ b.toNat) := by
  have h := cv_gt ha hb
  apply propext
  rw [← Int32.not_lt, h]
  omega
theorem cv_lt {a b : UInt32} (ha : fpF a) (hb : fpF b) : (Op.cmpValue (FP.fcmp a b) .l < 0) = (a.toNat < b.toNat) := by
  have h := cv_ge ha hb
  apply propext
  rw [← Int32.not_le, h]
  omega
