theorem w_isFull {d : Nat} {h : HP} {Q : Out → HP → Prop} {S : SI} (hs : STR h) (hg : gLog S h) {i : Nat} (hi : i < 5) (k : Q (.inl (some (.int (b2i (decide (30 ≤ (S 12 i).toInt)))))) h) : WP d mX7_isFull 0 [some (.ref (151 + 12 * i))] [] h Q := by
  refine bX7_isFull_0 ⟨st_K_151 hs hi, ?_⟩
  rw [(hg i hi).1, Int32.lt_iff_toInt_lt, show (30 : Int32).toInt = 30 from rfl]
  refine ⟨fun c => ?_, fun c => ?_⟩
  · have : ¬ 30 ≤ (S 12 i).toInt := by omega
    simpa [b2i, this] using k
  · have : 30 ≤ (S 12 i).toInt := by omega
    simpa [b2i, this] using k
theorem w_hasSerial {d : Nat} {h : HP} {Q : Out → HP → Prop} {S : SI} (hs : STR h) (hg : gLog S h) {i : Nat} (hi : i < 5) (h0 : 0 ≤ (S 12 i).toInt) (h30 : (S 12 i).toInt ≤ 30) {c s : Int32} (k : Q (.inl (some (.int (b2i (outd S i c s (S 12 i).toInt.toNat))))) h) : WP (d + 2) mX7_hasSerial 0 [some (.ref (151 + 12 * i)), some (.int c), some (.int s)] [] h Q := by
  refine bX7_hasSerial_0 ⟨st_K_151 hs hi, by omega, ?_⟩
  rw [(hg i hi).1]
  refine bX7_isOutdone_0 ?_
  refine w_isOutdone_3 hs hg hi h30 (B := (S 12 i).toInt.toNat) (by omega) ?_ _ 0 (Nat.zero_add _) rfl
  rw [KK_ret]
  refine bX7_hasSerial_10 ⟨?_, k⟩
  unfold b2i
  split <;> rfl
/-- one more than the place of the first entry of that client and serial, from j on, m of them; 0 -/
def numG (S : SI) (i : Nat) (c s : Int32) : Nat → Nat → Nat
  | _, 0 => 0
  | j, m + 1 => if S 15 (30 * i + j) = c ∧ S 16 (30 * i + j) = s then j + 1 else numG S i c s (j + 1) m
theorem w_numberOf_2 {d : Nat} {h : HP} {Q : Out → HP → Prop} {S : SI} (hs : STR h) (hg : gLog S h) {i : Nat} (hi : i < 5) (h30 : (S 12 i).toInt ≤ 30) {c s : Int32} :
    ∀ (m j : Nat), ((j + m : Nat) : Int) = (S 12 i).toInt → Q (.inl (some (.int (Int32.ofNat (numG S i c s j m))))) h → WP d mX7_numberOf 2 [some (.ref (151 + 12 * i)), some (.int c), some (.int s), some (.int (Int32.ofNat j))] [] h Q := by
  intro m
  induction m with
  | zero =>
    intro j hj k
    have e := of_nat (n := j) (by omega)
    refine bX7_numberOf_2 ?_
    simp only [st_K_151 hs hi, (hg i hi).1, Int32.le_iff_toInt_le, e]
    exact ⟨trivial, fun _ => k, fun c2 => by omega⟩
  | succ m ih =>
    intro j hj k
    have e := of_nat (n := j) (by omega)
    have e2 : (Int32.ofNat j).toNatClampNeg = j := Int32.toNatClampNeg_ofNat_of_lt (by omega)
    have en := (hg i hi).2 j (by omega) (by omega)
    refine bX7_numberOf_2 ?_
    simp only [st_K_151 hs hi, st_R_700_151 hs hi, st_K_152 hs hi, (hg i hi).1, Int32.le_iff_toInt_le, e, e2, en.2.2.1, en.2.2.2.2.1, en.2.2.2.2.2.1]
    refine ⟨trivial, fun c1 => by omega, fun c1 => ⟨by omega, inA_of (st_L_152 hs hi) (by omega) (by omega), trivial, fun c2 => ?_, fun c2 => ⟨fun c3 => ?_, fun c3 => ?_⟩⟩⟩
    · unfold numG at k
      rw [if_neg (fun q => c2 q.1)] at k
      have h1 := ih (j + 1) (by omega) k
      rw [Int32.ofNat_add] at h1
      exact h1
    · unfold numG at k
      rw [if_neg (fun q => c3 q.2)] at k
      have h1 := ih (j + 1) (by omega) k
      rw [Int32.ofNat_add] at h1
      exact h1
    · unfold numG at k
      rw [if_pos ⟨Classical.not_not.mp c2, Classical.not_not.mp c3⟩, Int32.ofNat_add] at k
      exact k
theorem w_numberOf {d : Nat} {h : HP} {Q : Out → HP → Prop} {S : SI} (hs : STR h) (hg : gLog S h) {i : Nat} (hi : i < 5) (h0 : 0 ≤ (S 12 i).toInt) (h30 : (S 12 i).toInt ≤ 30) {c s : Int32} {u : Option Value} (k : Q (.inl (some (.int (Int32.ofNat (numG S i c s 0 (S 12 i).toInt.toNat))))) h) : WP d mX7_numberOf 0 [some (.ref (151 + 12 * i)), some (.int c), some (.int s), u] [] h Q := by
  refine bX7_numberOf_0 ?_
  exact w_numberOf_2 hs hg hi h30 _ 0 (by omega) k
/-- the value after the first n entries -/
def valU (S : SI) (i : Nat) : Nat → Int32
  | 0 => 0
  | n + 1 => if outd S i (S 15 (30 * i + n)) (S 16 (30 * i + n)) n = true then valU S i n else S 17 (30 * i + n)
theorem w_valueUpTo_9 {d : Nat} {h : HP} {Q : Out → HP → Prop} {S : SI} (hs : STR h) (hg : gLog S h) {i : Nat} (hi : i < 5) (h30 : (S 12 i).toInt ≤ 30) {n : Int32} :
    ∀ (j : Nat) (x : Int32) (u : Option Value), x.toInt = j → (j : Int) ≤ (S 12 i).toInt → Q (.inl (some (.int (valU S i j)))) h → WP (d + 2) mX7_valueUpTo 9 [some (.ref (151 + 12 * i)), some (.int n), some (.int x), u] [] h Q := by
  intro j
  induction j with
  | zero =>
    intro x u hx hj k
    refine bX7_valueUpTo_9 ?_
    simp only [Int32.lt_iff_toInt_lt, i_one, hx]
    exact ⟨fun _ => k, fun c => absurd (by decide) c⟩
  | succ j ih =>
    intro x u hx hj k
    have e : (x - 1).toInt = j := by rw [sub1 (by omega)]; omega
    have e2 : (x - 1).toNatClampNeg = j := by rw [clamp_eq, e]; rfl
    have en := (hg i hi).2 j (by omega) (by omega)
    refine bX7_valueUpTo_9 ?_
    simp only [st_K_151 hs hi, st_R_700_151 hs hi, st_K_152 hs hi, Int32.lt_iff_toInt_lt, i_one, hx, e2, en.2.2.1, en.2.2.2.2.1, en.2.2.2.2.2.1]
    refine ⟨fun c => by omega, fun c => ⟨trivial, by omega, inA_of (st_L_152 hs hi) (by omega) (by omega), trivial, by omega, ?_⟩⟩
    refine bX7_isOutdone_0 ?_
    refine w_isOutdone_3 hs hg hi h30 (B := j) (by omega) ?_ _ 0 (Nat.zero_add _) rfl
    rw [KK_ret]
    refine bX7_valueUpTo_38 ?_
    unfold valU at k
    cases ho : outd S i (S 15 (30 * i + j)) (S 16 (30 * i + j)) j with
    | true =>
      rw [if_pos ho] at k
      refine ⟨fun _ => ih _ _ ?_ (by omega) k, fun q => absurd (by decide) q⟩
      rw [i_add (by rw [i_neg1]; omega) (by rw [i_neg1]; omega), i_neg1]
      omega
    | false =>
      rw [if_neg (by rw [ho]; decide)] at k
      refine ⟨fun q => absurd rfl q, fun _ => ⟨en.2.2.1, ?_⟩⟩
      rw [en.2.2.2.2.2.2]
      exact k
theorem w_valueUpTo {d : Nat} {h : HP} {Q : Out → HP → Prop} {S : SI} (hs : STR h) (hg : gLog S h) {i : Nat} (hi : i < 5) (h30 : (S 12 i).toInt ≤ 30) {n : Int32} (h0 : 0 ≤ n.toInt) (hn : n.toInt ≤ (S 12 i).toInt) {u1 u2 : Option Value} (k : Q (.inl (some (.int (valU S i n.toInt.toNat)))) h) : WP (d + 2) mX7_valueUpTo 0 [some (.ref (151 + 12 * i)), some (.int n), u1, u2] [] h Q := by
  refine bX7_valueUpTo_0 ⟨st_K_151 hs hi, ?_⟩
  rw [(hg i hi).1, if_neg (by rw [Int32.lt_iff_toInt_lt]; omega)]
  exact w_valueUpTo_9 hs hg hi h30 _ _ _ (by omega) (by omega) k
theorem w_isLike {d : Nat} {h : HP} {Q : Out → HP → Prop} {a a2 : Nat} {t c s v t2 c2 s2 v2 : Int32} (en : EN h a t c s v) (en2 : EN h a2 t2 c2 s2 v2) (k : Q (.inl (some (.int (b2i (decide (t = t2 ∧ c = c2 ∧ s = s2 ∧ v = v2)))))) h) : WP d mX3_isLike 0 [some (.ref a), some (.ref a2)] [] h Q := by
  refine bX3_isLike_0 ⟨en.2.2.1, en2.2.2.1, ?_⟩
  simp only [en.2.2.2.1, en.2.2.2.2.1, en.2.2.2.2.2.1, en.2.2.2.2.2.2, en2.2.2.2.1, en2.2.2.2.2.1, en2.2.2.2.2.2.1, en2.2.2.2.2.2.2]
  refine ⟨fun q1 => ?_, fun q1 => ⟨fun q2 => ?_, fun q2 => ⟨fun q3 => ?_, fun q3 => ⟨fun q4 => ?_, fun q4 => ?_⟩⟩⟩⟩
  · simpa [b2i, q1] using k
  · simpa [b2i, q2] using k
  · simpa [b2i, q3] using k
  · simpa [b2i, q4] using k
  · simpa [b2i, Classical.not_not.mp q1, Classical.not_not.mp q2, Classical.not_not.mp q3, Classical.not_not.mp q4] using k
/-- whether the first n entries of two logs are alike -/
def likeU (S : SI) (i j : Nat) : Nat → Bool
  | 0 => true
  | n + 1 => likeU S i j n && decide (S 14 (30 * i + n) = S 14 (30 * j + n) ∧ S 15 (30 * i + n) = S 15 (30 * j + n) ∧ S 16 (30 * i + n) = S 16 (30 * j + n) ∧ S 17 (30 * i + n) = S 17 (30 * j + n))
theorem likeU_mono {S : SI} {i j k n : Nat} (h : likeU S i j k = false) (hn : k ≤ n) : likeU S i j n = false := by
  induction n with
  | zero =>
    have : k = 0 := by omega
    subst this; exact h
  | succ n ih =>
    by_cases q : k = n + 1
    · subst q; exact h
    · unfold likeU
      rw [ih (by omega)]; rfl
theorem w_isLikeUpTo_19 {d : Nat} {h : HP} {Q : Out → HP → Prop} {S : SI} (hs : STR h) (hg : gLog S h) {i i2 : Nat} (hi : i < 5) (hi2 : i2 < 5) (h30 : (S 12 i).toInt ≤ 30) (h302 : (S 12 i2).toInt ≤ 30) {x x2 : Int32} {B : Nat} (hx : x2.toInt = B) (hB : (B : Int) ≤ (S 12 i).toInt) (hB2 : (B : Int) ≤ (S 12 i2).toInt) (k : Q (.inl (some (.int (b2i (likeU S i i2 B))))) h) :
    ∀ (m j : Nat), j + m = B → likeU S i i2 j = true → WP (d + 1) mX7_isLikeUpTo 19 [some (.ref (151 + 12 * i)), some (.ref (151 + 12 * i2)), some (.int x), some (.int x2), some (.int (Int32.ofNat j))] [] h Q := by
  intro m
  induction m with
  | zero =>
    intro j hj ho
    obtain rfl : j = B := by omega
    rw [ho] at k
    refine bX7_isLikeUpTo_19 ?_
    have e := of_nat (n := j) (by omega)
    simp only [Int32.le_iff_toInt_le, e, hx]
    exact ⟨fun _ => k, fun c => absurd (Int.le_refl _) c⟩
  | succ m ih =>
    intro j hj ho
    refine bX7_isLikeUpTo_19 ?_
    have e := of_nat (n := j) (by omega)
    have e2 : (Int32.ofNat j).toNatClampNeg = j := Int32.toNatClampNeg_ofNat_of_lt (by omega)
    have en := (hg i hi).2 j (by omega) (by omega)
    have en2 := (hg i2 hi2).2 j (by omega) (by omega)
    simp only [st_K_151 hs hi, st_R_700_151 hs hi, st_K_152 hs hi, st_K_151 hs hi2, st_R_700_151 hs hi2, st_K_152 hs hi2, Int32.le_iff_toInt_le, e, hx, e2, en.2.2.1]
    refine ⟨fun c1 => by omega, fun c1 => ⟨trivial, by omega, inA_of (st_L_152 hs hi) (by omega) (by omega), trivial, by omega, inA_of (st_L_152 hs hi2) (by omega) (by omega), en.1, trivial, ?_⟩⟩
    refine w_isLike en en2 ?_
    rw [KK_ret]
    refine bX7_isLikeUpTo_42 ?_
    cases hb : decide (S 14 (30 * i + j) = S 14 (30 * i2 + j) ∧ S 15 (30 * i + j) = S 15 (30 * i2 + j) ∧ S 16 (30 * i + j) = S 16 (30 * i2 + j) ∧ S 17 (30 * i + j) = S 17 (30 * i2 + j)) with
    | false =>
      have : likeU S i i2 (j + 1) = false := by unfold likeU; rw [hb]; simp
      rw [likeU_mono this (by omega)] at k
      exact ⟨fun q => absurd rfl q, fun _ => k⟩
    | true =>
      have h1 := ih (j + 1) (by omega) (by unfold likeU; rw [ho, hb]; rfl)
      rw [Int32.ofNat_add] at h1
      exact ⟨fun _ => h1, fun q => absurd (by decide) q⟩
