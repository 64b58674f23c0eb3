/-! ===== orders of the history, as the reference tries them ===== -/
/-- whether a may come next behind a set, by the first acts -/
def mayB (M : SI) (p a : Nat) : Nat → Bool
  | 0 => true
  | b + 1 => mayB M p a b && (p.testBit b || decide (M 46 b = -1) || !decide (M 46 b < M 45 a))
theorem mayB_s {M : SI} {p a b : Nat} : mayB M p a (b + 1) = (mayB M p a b && (p.testBit b || decide (M 46 b = -1) || !decide (M 46 b < M 45 a))) := rfl
/-- the value of the write w, 14: none -/
def valW (M : SI) (w : Nat) : Int32 := if w = 14 then 0 else M 44 w
def stpO (M : SI) (na p w b : Nat) : Prop := b < na ∧ p.testBit b = false ∧ mayB M p b na = true ∧ (M 41 b = 0 → M 44 b = valW M w)
def nxW (M : SI) (w b : Nat) : Nat := if M 41 b = 0 then w else b
/-- acts, the last first, that lead to a set and its last write -/
def Path (M : SI) (na : Nat) : List Nat → Nat → Nat → Prop
  | [], p, w => p = 0 ∧ w = 14
  | b :: L, p, w => ∃ p' w', Path M na L p' w' ∧ stpO M na p' w' b ∧ p = p' ||| 2 ^ b ∧ w = nxW M w' b
def Rch (M : SI) (na p w : Nat) : Prop := ∃ L, Path M na L p w
def mustB (M : SI) (na p : Nat) : Prop := ∀ b, b < na → ¬ M 46 b = -1 → p.testBit b = true
/-- whether the history is in order -/
def ordR (M : SI) (na : Nat) : Prop := ∃ p w, Rch M na p w ∧ mustB M na p
theorem bit_lt {s a na : Nat} (hs : s < 2 ^ na) (ha : a < na) : s ||| 2 ^ a < 2 ^ na := Nat.or_lt_two_pow hs (Nat.pow_lt_pow_right (by omega) ha)
theorem bit_gt {s a : Nat} (h : s.testBit a = false) : s < s ||| 2 ^ a := by
  have h1 : s ≤ s ||| 2 ^ a := Nat.left_le_or
  have h2 : s ≠ s ||| 2 ^ a := by
    intro e
    have := congrArg (fun x => x.testBit a) e
    simp only [Nat.testBit_or, Nat.testBit_two_pow_self, Bool.or_true] at this
    rw [h] at this
    exact absurd this (by decide)
  omega
theorem path_lt {M : SI} {na : Nat} : ∀ {L : List Nat} {p w : Nat}, Path M na L p w → p < 2 ^ na ∧ (w < na ∨ w = 14) := by
  intro L
  induction L with
  | nil =>
    intro p w h
    obtain ⟨h1, h2⟩ := h
    subst h1 h2
    exact ⟨Nat.two_pow_pos na, Or.inr rfl⟩
  | cons b L ih =>
    intro p w h
    obtain ⟨p', w', h1, h2, h3, h4⟩ := h
    obtain ⟨i1, i2⟩ := ih h1
    subst h3 h4
    refine ⟨bit_lt i1 h2.1, ?_⟩
    unfold nxW
    split
    · exact i2
    · exact Or.inl h2.1
/-- the must of the reference -/
def mustI (M : SI) : Nat → Int32
  | 0 => 0
  | j + 1 => mustI M j ||| (if M 46 j = -1 then 0 else (1 : Int32) <<< (Int32.ofNat j &&& 31))
theorem mustI_s {M : SI} {j : Nat} : mustI M (j + 1) = mustI M j ||| (if M 46 j = -1 then 0 else (1 : Int32) <<< (Int32.ofNat j &&& 31)) := rfl
theorem tb_must {M : SI} {i : Nat} (hi : i < 32) : ∀ n, n ≤ 14 → tb (mustI M n) i = decide (i < n ∧ ¬ M 46 i = -1) := by
  intro n
  induction n with
  | zero =>
    intro _
    unfold mustI
    rw [tb_0]
    exact (decide_eq_false (fun z => by omega)).symm
  | succ n ih =>
    intro hn
    rw [mustI_s, tb_or, ih (by omega)]
    by_cases c : M 46 n = -1
    · rw [if_pos c, tb_0, Bool.or_false]
      apply decide_eq_decide.mpr
      constructor
      · exact fun z => ⟨by omega, z.2⟩
      · intro z
        refine ⟨?_, z.2⟩
        by_cases q : i = n
        · subst q; exact absurd c z.2
        · omega
    · rw [if_neg c, o_shl _ (by omega), tb_o, decide_eq_true hi, Bool.true_and, Nat.testBit_two_pow, ← Bool.decide_or]
      apply decide_eq_decide.mpr
      constructor
      · rintro (z | z)
        · exact ⟨by omega, z.2⟩
        · subst z; exact ⟨by omega, c⟩
      · intro z
        by_cases q : n = i
        · exact Or.inr q
        · exact Or.inl ⟨by omega, z.2⟩
theorem must_iff {M : SI} {na p : Nat} (hna : na ≤ 14) : ((Int32.ofNat p &&& mustI M na) = mustI M na) = mustB M na p := by
  apply propext
  constructor
  · intro h b hb hm
    have t := congrArg (fun x => tb x b) h
    simp only [tb_and] at t
    rw [tb_must (by omega) na hna, decide_eq_true ⟨hb, hm⟩, Bool.and_true, tb_o, decide_eq_true (show b < 32 by omega), Bool.true_and] at t
    exact t
  · intro h
    apply tb_ext
    intro i hi
    rw [tb_and, tb_must hi na hna, tb_o, decide_eq_true hi, Bool.true_and]
    by_cases c : i < na ∧ ¬ M 46 i = -1
    · rw [decide_eq_true c, h i c.1 c.2]; rfl
    · rw [decide_eq_false c, Bool.and_false]
/-- which are done: sets below s; of s, the acts below a; of a, the values below w -/
def Lx (p b w' s a w : Nat) : Prop := p < s ∨ (p = s ∧ (b < a ∨ (b = a ∧ w' < w)))
def TI (M : SI) (na : Nat) (T : Nat → Int32) (s a w : Nat) : Prop := (∀ x i, x < 2 ^ na → i < 32 → tb (T x) i = true → i < 15 ∧ Rch M na x i) ∧ tb (T 0) 14 = true ∧ (∀ p b w', p < 2 ^ na → w' < 15 → Lx p b w' s a w → tb (T p) w' = true → stpO M na p w' b → tb (T (p ||| 2 ^ b)) (nxW M w' b) = true)
section ORD
variable {M : SI} {na s a w : Nat} {T : Nat → Int32}
theorem TI_0 (T0 : T 0 = Int32.ofNat (2 ^ 14)) (Tz : ∀ x, 0 < x → x < 2 ^ na → T x = 0) : TI M na T 0 0 0 := by
  refine ⟨?_, ?_, ?_⟩
  · intro x i hx hi ht
    by_cases q : x = 0
    · subst q
      rw [T0, tb_o, decide_eq_true hi, Bool.true_and, Nat.testBit_two_pow] at ht
      have : 14 = i := of_decide_eq_true ht
      subst this
      exact ⟨by omega, [], rfl, rfl⟩
    · rw [Tz x (by omega) hx, tb_0] at ht
      exact absurd ht (by decide)
  · rw [T0, tb_o, Nat.testBit_two_pow]; rfl
  · intro p b w' _ _ hl
    rcases hl with q | q
    · omega
    · omega
theorem TI_all (h : TI M na T s 0 0) : ∀ {L : List Nat} {p v : Nat}, Path M na L p v → p ≤ s → tb (T p) v = true := by
  intro L
  induction L with
  | nil =>
    intro p v hp _
    obtain ⟨h1, h2⟩ := hp
    subst h1 h2
    exact h.2.1
  | cons b L ih =>
    intro p v hp hs
    obtain ⟨p', w', h1, h2, h3, h4⟩ := hp
    have hg := bit_gt h2.2.1
    subst h3 h4
    obtain ⟨l1, l2⟩ := path_lt h1
    have hb := h2.1
    have t := ih h1 (by omega)
    have w15 : w' < 15 := (h.1 p' w' l1 (by
      rcases l2 with q | q
      · have := h2.1
        by_cases c : w' < 32
        · exact c
        · exfalso
          have : tb (T p') w' = false := by
            unfold tb
            exact BitVec.getLsbD_of_ge _ _ (by omega)
          rw [this] at t; exact absurd t (by decide)
      · omega) t).1
    exact h.2.2 p' b w' l1 w15 (Or.inl (by omega)) t h2
theorem TI_next (h : TI M na T s a w) (ha : na ≤ a) : TI M na T (s + 1) 0 0 := by
  refine ⟨h.1, h.2.1, ?_⟩
  intro p b w' hp hw hl ht hs
  have hb := hs.1
  refine h.2.2 p b w' hp hw ?_ ht hs
  rcases hl with q | q
  · by_cases c : p = s
    · exact Or.inr ⟨c, Or.inl (by omega)⟩
    · exact Or.inl (by omega)
  · omega
theorem TI_empty (h : TI M na T s a w) (hz : T s = 0) : TI M na T (s + 1) 0 0 := by
  refine ⟨h.1, h.2.1, ?_⟩
  intro p b w' hp hw hl ht hs
  refine h.2.2 p b w' hp hw ?_ ht hs
  rcases hl with q | q
  · by_cases c : p = s
    · subst c
      rw [hz, tb_0] at ht
      exact absurd ht (by decide)
    · exact Or.inl (by omega)
  · omega
theorem TI_skipA (h : TI M na T s a 0) (hn : ∀ w', stpO M na s w' a → False) : TI M na T s (a + 1) 0 := by
  refine ⟨h.1, h.2.1, ?_⟩
  intro p b w' hp hw hl ht hs
  refine h.2.2 p b w' hp hw ?_ ht hs
  rcases hl with q | ⟨q, q2⟩
  · exact Or.inl q
  · subst q
    by_cases c : b = a
    · subst c; exact absurd hs (hn w')
    · exact Or.inr ⟨rfl, Or.inl (by omega)⟩
theorem TI_skipW (h : TI M na T s a w) (hn : tb (T s) w = true → stpO M na s w a → False) : TI M na T s a (w + 1) := by
  refine ⟨h.1, h.2.1, ?_⟩
  intro p b w' hp hw hl ht hs
  refine h.2.2 p b w' hp hw ?_ ht hs
  rcases hl with q | ⟨q, q2⟩
  · exact Or.inl q
  · subst q
    rcases q2 with q2 | ⟨q2, q3⟩
    · exact Or.inr ⟨rfl, Or.inl q2⟩
    · subst q2
      by_cases c : w' = w
      · subst c; exact absurd hs (hn ht)
      · exact Or.inr ⟨rfl, Or.inr ⟨rfl, by omega⟩⟩
theorem TI_doneA (h : TI M na T s a 15) : TI M na T s (a + 1) 0 := by
  refine ⟨h.1, h.2.1, ?_⟩
  intro p b w' hp hw hl ht hs
  refine h.2.2 p b w' hp hw ?_ ht hs
  rcases hl with q | ⟨q, q2⟩
  · exact Or.inl q
  · refine Or.inr ⟨q, ?_⟩
    by_cases c : b = a
    · exact Or.inr ⟨c, hw⟩
    · exact Or.inl (by omega)
theorem TI_upd (h : TI M na T s a w) (hs : s < 2 ^ na) (hna : na ≤ 14) (hw : w < 15) (ht : tb (T s) w = true) (hst : stpO M na s w a) {y : Nat} (hy : y = nxW M w a) : TI M na (fun k => if k = s ||| 2 ^ a then T (s ||| 2 ^ a) ||| Int32.ofNat (2 ^ y) else T k) s a (w + 1) := by
  have hg := bit_gt hst.2.1
  have han := hst.1
  have hy15 : y < 15 := by
    rw [hy]
    unfold nxW
    split <;> omega
  have mono : ∀ x i, tb (T x) i = true → tb ((fun k => if k = s ||| 2 ^ a then T (s ||| 2 ^ a) ||| Int32.ofNat (2 ^ y) else T k) x) i = true := by
    intro x i hx
    show tb (if x = s ||| 2 ^ a then T (s ||| 2 ^ a) ||| Int32.ofNat (2 ^ y) else T x) i = true
    by_cases c : x = s ||| 2 ^ a
    · rw [if_pos c, tb_or, ← c, hx, Bool.true_or]
    · rw [if_neg c]; exact hx
  have same : ∀ x, x ≤ s → (fun k => if k = s ||| 2 ^ a then T (s ||| 2 ^ a) ||| Int32.ofNat (2 ^ y) else T k) x = T x := by
    intro x hx
    exact if_neg (by omega)
  refine ⟨?_, mono _ _ h.2.1, ?_⟩
  · intro x i hx hi hb
    have hb' : tb (if x = s ||| 2 ^ a then T (s ||| 2 ^ a) ||| Int32.ofNat (2 ^ y) else T x) i = true := hb
    by_cases c : x = s ||| 2 ^ a
    · rw [if_pos c, tb_or] at hb'
      cases z : tb (T (s ||| 2 ^ a)) i
      · rw [z, Bool.false_or, tb_o, decide_eq_true hi, Bool.true_and, Nat.testBit_two_pow] at hb'
        have e : y = i := of_decide_eq_true hb'
        subst e
        refine ⟨hy15, ?_⟩
        obtain ⟨_, L, hL⟩ := h.1 s w hs (by omega) ht
        exact ⟨a :: L, s, w, hL, hst, c, hy⟩
      · rw [c]
        exact h.1 _ i (bit_lt hs han) hi z
    · rw [if_neg c] at hb'
      exact h.1 x i hx hi hb'
  · intro p b w' hp hw' hl hb hsp
    have hps : p ≤ s := by
      rcases hl with q | q
      · omega
      · omega
    rw [same p hps] at hb
    rcases hl with q | ⟨q, q2⟩
    · exact mono _ _ (h.2.2 p b w' hp hw' (Or.inl q) hb hsp)
    · rcases q2 with q2 | ⟨q2, q3⟩
      · exact mono _ _ (h.2.2 p b w' hp hw' (Or.inr ⟨q, Or.inl q2⟩) hb hsp)
      · by_cases c : w' = w
        · subst q q2 c
          show tb (if p ||| 2 ^ b = p ||| 2 ^ b then T (p ||| 2 ^ b) ||| Int32.ofNat (2 ^ y) else T (p ||| 2 ^ b)) (nxW M w' b) = true
          rw [if_pos rfl, tb_or, tb_o, ← hy, decide_eq_true (show y < 32 by omega), Bool.true_and, Nat.testBit_two_pow_self, Bool.or_true]
        · exact mono _ _ (h.2.2 p b w' hp hw' (Or.inr ⟨q, Or.inr ⟨q2, by omega⟩⟩) hb hsp)
end ORD
