/-! ===== what holds of the content between calls ===== -/
def MAC (st : Nat) (S : SI) (m : Nat) : Prop := (∃ l, S 12 m = Int32.ofNat l ∧ l ≤ 30 ∧ ∃ c, S 13 m = Int32.ofNat c ∧ c ≤ l) ∧ (∃ t, S 9 m = Int32.ofNat t ∧ t ≤ st) ∧ (S 5 m = 0 ∨ S 5 m = 1) ∧ (S 11 m = 0 ∨ S 11 m = 1 ∨ S 11 m = 2) ∧ (S 23 m = 0 ∨ S 23 m = 1) ∧ (S 23 m = 1 → S 11 m = 2) ∧ (∃ g, S 18 m = Int32.ofNat g ∧ g < 32)
/-- votes -/
def RVO (n : Nat) (S : SI) (g : YG) : Prop := ∀ i, i < n → (S 10 i = -1 ∧ yV g i (tmS S i) = none) ∨ ∃ c, S 10 i = Int32.ofNat c ∧ c < n ∧ yV g i (tmS S i) = some c
/-- one that stands -/
def RCA (n : Nat) (S : SI) (g : YG) (i : Nat) : Prop := S 11 i = 1 → yV g i (tmS S i) = some i ∧ lgS S i = yC g i (tmS S i) ∧ yW g (tmS S i) ≠ some i ∧ ∀ a, a < 5 → tb (S 18 i) a = true → a < n ∧ yV g a (tmS S i) = some i
/-- a leader -/
def RLE (n : Nat) (S : SI) (g : YG) (i : Nat) : Prop := S 11 i = 2 → yW g (tmS S i) = some i ∧ (∀ o, o < n → o ≠ i → ∃ p, S 19 (5 * i + o) = Int32.ofNat p ∧ p ≤ (lgS S i).length) ∧ (∀ o, o < 5 → ∃ s, S 20 (5 * i + o) = Int32.ofNat s ∧ s ≤ 30 ∧ (o = i ∨ n ≤ o → s = 0) ∧ (o < n → o ≠ i → s ≤ yA g o (tmS S i))) ∧ (∀ o, o < 5 → o = i ∨ n ≤ o → S 21 (5 * i + o) = 0)
/-- entries that leaders had -/
def REN (g : YG) : Prop := (∀ t e, e ∈ yL g t → e.1 = Int32.ofNat (yT e) ∧ 1 ≤ yT e) ∧ (∀ t, (yL g t).length ≤ 30) ∧ ∀ a t c, yV g a t = some c → 1 ≤ t
def RFT (n : Nat) (S : SI) (g : YG) : Prop := yI n (tmS S) (lgS S) g ∧ RVO n S g ∧ (∀ i, i < n → RCA n S g i) ∧ (∀ i, i < n → RLE n S g i) ∧ (∀ i, i < n → yCI n g (nt (S 13 i)) (tmS S i) (lgS S i)) ∧ REN g
def blS (S : SI) (d a : Nat) : Int := (S 27 (4 * a + d)).toInt
/-- what machine a has accepted -/
def PAC (S : SI) (d a : Nat) (ac : ZA) (pv : ZV) : Prop := (S 28 (4 * a + d) = -1 ∧ ∀ b, ¬ ac a b) ∨ ∃ b, S 28 (4 * a + d) = Int32.ofNat b ∧ b < 100000 ∧ ac a b ∧ pv b = some (S 29 (4 * a + d)) ∧ ∀ b', b < b' → ¬ ac a b'
/-- the proposal of machine m -/
def PRO (n : Nat) (S : SI) (d m : Nat) (ac : ZA) (pv : ZV) : Prop := S 31 (4 * m + d) ≠ -1 → ∃ b, S 31 (4 * m + d) = Int32.ofNat b ∧ b < 100000 ∧ b % 8 = m ∧ (b : Int) ≤ blS S d m ∧
  ((S 35 (4 * m + d) = 0 ∧ pv b = none ∧ (∀ a, a < 5 → tb (S 33 (4 * m + d)) a = true → a < n ∧ (b : Int) ≤ blS S d a ∧ ∀ b', b' < b → (S 34 (4 * m + d)).toInt < b' → ¬ ac a b') ∧ (S 34 (4 * m + d) = -1 ∨ ∃ x, S 34 (4 * m + d) = Int32.ofNat x ∧ x < b ∧ pv x = some (S 32 (4 * m + d))) ∧ S 32 (4 * m + d) ≠ -1) ∨
   (S 35 (4 * m + d) = 1 ∧ pv b = some (S 32 (4 * m + d)) ∧ ∀ a, a < 5 → tb (S 36 (4 * m + d)) a = true → a < n ∧ ac a b))
def PAX (st n : Nat) (S : SI) (d : Nat) (ac : ZA) (pv : ZV) : Prop := zI n (blS S d) ac pv ∧ (∀ a, a < n → -1 ≤ blS S d a ∧ blS S d a ≤ 8 * st + 8) ∧ (∀ a, a < n → PAC S d a ac pv) ∧ (∀ b v, pv b = some v → v ≠ -1 ∧ b ≤ 8 * st + 8) ∧ (∀ m, m < n → PRO n S d m ac pv) ∧ (∀ m, m < n → S 30 (4 * m + d) ≠ -1 → ∃ b, zH n ac b ∧ pv b = some (S 30 (4 * m + d)))
/-- bounds of choices -/
def CHZ (S : SI) : Prop := ∀ k, k < 20 → (S 35 k = 0 ∨ S 35 k = 1) ∧ (∃ g, S 33 k = Int32.ofNat g ∧ g < 32) ∧ (∃ g, S 36 k = Int32.ofNat g ∧ g < 32) ∧ -1 ≤ (S 34 k).toInt
/-- there is a write of that client and serial -/
def hasA (S : SI) (na : Nat) (c s : Int32) : Prop := ∃ a, a < na ∧ S 41 a = 1 ∧ S 42 a = c ∧ S 43 a = s
def HIS (n na : Nat) (S : SI) : Prop := HIo S na ∧ (∀ a, a < na → (S 45 a).toInt ≤ (S 4 0).toInt) ∧ (∀ a, a < na → S 41 a = 1 → S 46 a = -1 → agrB S a = false)
def FLO (S : SI) (F : SF) : Prop := fpF (F 1 0) ∧ fpQ (F 2 0) ∧ fpQ (FP.fsub FP.fconst1 (F 3 0)) ∧ (∀ m, m < 5 → fpF (F 7 m) ∧ fpQ (F 8 m)) ∧ (∀ k, k < 25 → S 21 k = 1 → fpF (F 22 k)) ∧ (∀ m, m < 5 → S 23 m = 1 → fpF (F 24 m))
/-- messages -/
def MOK (n st : Nat) (tm : Nat → Nat) (g : YG) (bl : Nat → Nat → Int) (pa : Nat → ZA) (pv : Nat → ZV) (w : RW) (c : UInt32) : Prop := ∃ kd f m, w 0 = Int32.ofNat kd ∧ kd ≤ 7 ∧ w 1 = Int32.ofNat f ∧ f < n ∧ w 2 = Int32.ofNat m ∧ m < n ∧ f ≠ m ∧ fpF c ∧
  (kd ≤ 3 → ∃ t, w 3 = Int32.ofNat t ∧ t ≤ tm f ∧ t ≤ st ∧
    (kd = 0 → yV g f t = some f ∧ w 4 = Int32.ofNat (yC g f t).length ∧ w 5 = Int32.ofNat (yla (yC g f t))) ∧
    (kd = 1 → w 7 ≠ 0 → yV g f t = some m) ∧
    (kd = 2 → yW g t = some f ∧ ∃ p mn cm, w 4 = Int32.ofNat p ∧ w 8 = Int32.ofNat mn ∧ mn ≤ 3 ∧ p + mn ≤ (yL g t).length ∧ w 5 = tmL (yL g t) p ∧ (∀ k, k < mn → (yL g t)[p + k]? = some (w (10 + 4 * k), w (11 + 4 * k), w (12 + 4 * k), w (13 + 4 * k))) ∧ w 6 = Int32.ofNat cm ∧ cm ≤ 30 ∧ yCov n g cm t) ∧
    (kd = 3 → ∃ x, w 4 = Int32.ofNat x ∧ x ≤ 30 ∧ (w 7 ≠ 0 → yW g t = some m ∧ x ≤ yA g f t) ∧ (x = 0 ∨ (yW g t = some m ∧ x ≤ (yL g t).length)))) ∧
  (4 ≤ kd → ∃ d b, d < 4 ∧ w 6 = Int32.ofNat d ∧ w 3 = Int32.ofNat b ∧ b ≤ 8 * st + 8 ∧
    (kd = 5 → (b : Int) ≤ bl d f ∧ ((w 4 = -1 ∧ ∀ b', b' < b → ¬ pa d f b') ∨ ∃ x, w 4 = Int32.ofNat x ∧ x < b ∧ pv d x = some (w 5) ∧ ∀ b', b' < b → x < b' → ¬ pa d f b')) ∧
    (kd = 6 → pv d b = some (w 9)) ∧ (kd = 7 → pa d f b))
def INV (st n na : Nat) (g : YG) (pa : Nat → ZA) (pv : Nat → ZV) (S : SI) (F : SF) : Prop :=
  (S 0 0 = Int32.ofNat n ∧ (n = 3 ∨ n = 5) ∧ S 47 0 = Int32.ofNat na ∧ ∃ s, S 4 0 = Int32.ofNat s ∧ s ≤ st) ∧ (∀ m, m < 5 → MAC st S m) ∧ (∀ k, k < 25 → (S 6 k = 0 ∨ S 6 k = 1) ∧ (S 21 k = 0 ∨ S 21 k = 1)) ∧ RFT n S g ∧ (∀ d, d < 4 → PAX st n S d (pa d) (pv d)) ∧ CHZ S ∧ (∀ t e, e ∈ yL g t → hasA S na e.2.1 e.2.2.1) ∧ HIS n na S ∧ MSX (MOK n st (tmS S) g (blS S) pa pv) S F ∧ FLO S F
section INVS
variable {st st' n na : Nat} {g g' : YG} {pa pa' : Nat → ZA} {pv pv' : Nat → ZV} {S S' : SI} {F : SF} {tm tm' : Nat → Nat} {bl bl' : Nat → Nat → Int}
theorem MOK_cg : CGp (MOK n st tm g bl pa pv) := by
  intro w w' c hw h
  obtain ⟨kd, f, m, h0, hk, h1, hf, h2, hm, hfm, hc, hA, hB⟩ := h
  refine ⟨kd, f, m, (hw 0 (by omega)).symm.trans h0, hk, (hw 1 (by omega)).symm.trans h1, hf, (hw 2 (by omega)).symm.trans h2, hm, hfm, hc, fun k3 => ?_, fun k4 => ?_⟩
  · obtain ⟨t, a1, a2, a3, a4, a5, a6, a7⟩ := hA k3
    rw [hw 3 (by omega)] at a1
    rw [hw 4 (by omega), hw 5 (by omega)] at a4
    rw [hw 7 (by omega)] at a5
    rw [hw 4 (by omega), hw 8 (by omega), hw 5 (by omega), hw 6 (by omega)] at a6
    rw [hw 4 (by omega), hw 7 (by omega)] at a7
    refine ⟨t, a1, a2, a3, a4, a5, fun q => ?_, a7⟩
    obtain ⟨b0, p, mn, cm, b1, b2, b3, b4, b5, b6, b7⟩ := a6 q
    refine ⟨b0, p, mn, cm, b1, b2, b3, b4, b5, fun k hk => ?_, b7⟩
    have := b6 k hk
    rw [hw (10 + 4 * k) (by omega), hw (11 + 4 * k) (by omega), hw (12 + 4 * k) (by omega), hw (13 + 4 * k) (by omega)] at this
    exact this
  · obtain ⟨d, b, a1, a2, a3, a4, a5, a6, a7⟩ := hB k4
    rw [hw 6 (by omega)] at a2
    rw [hw 3 (by omega)] at a3
    rw [hw 4 (by omega), hw 5 (by omega)] at a5
    rw [hw 9 (by omega)] at a6
    exact ⟨d, b, a1, a2, a3, a4, a5, a6, a7⟩
theorem MOK.mono (hst : st ≤ st') (x : yX tm tm' g g') (z : ∀ d, d < 4 → zX (bl d) (bl' d) (pa d) (pa' d) (pv d) (pv' d)) {w : RW} {c : UInt32} (h : MOK n st tm g bl pa pv w c) : MOK n st' tm' g' bl' pa' pv' w c := by
  obtain ⟨kd, f, m, h0, hk, h1, hf, h2, hm, hfm, hc, hA, hB⟩ := h
  refine ⟨kd, f, m, h0, hk, h1, hf, h2, hm, hfm, hc, fun k3 => ?_, fun k4 => ?_⟩
  · obtain ⟨t, a1, a2, a3, a4, a5, a6, a7⟩ := hA k3
    refine ⟨t, a1, Nat.le_trans a2 (x.1 f), by omega, fun q => ?_, fun q q2 => x.2.2.2.2.2.1 _ _ _ (a5 q q2), fun q => ?_, fun q => ?_⟩
    · obtain ⟨b1, b2, b3⟩ := a4 q
      have e := x.2.2.2.2.2.2 f t b1
      rw [e]
      exact ⟨x.2.2.2.2.2.1 _ _ _ b1, b2, b3⟩
    · obtain ⟨b0, p, mn, cm, b1, b2, b3, b4, b5, b6, b7, b8, b9⟩ := a6 q
      have hl := (x.2.1 t).length_le
      refine ⟨x.2.2.2.2.1 _ _ b0, p, mn, cm, b1, b2, b3, by omega, ?_, fun k hk => ypre_get (x.2.1 t) (b6 k hk), b7, b8, b9.mono x⟩
      rw [b5]
      cases p with
      | zero => rw [tmL_0, tmL_0]
      | succ p =>
        have hlt : p < (yL g t).length := by omega
        have hg : (yL g t)[p]? = some (yL g t)[p] := List.getElem?_eq_getElem hlt
        rw [tmL_some hg, tmL_some (ypre_get (x.2.1 t) hg)]
    · obtain ⟨y, b1, b2, b3, b4⟩ := a7 q
      have hl := (x.2.1 t).length_le
      refine ⟨y, b1, b2, fun q2 => ?_, ?_⟩
      · obtain ⟨c1, c2⟩ := b3 q2
        exact ⟨x.2.2.2.2.1 _ _ c1, Nat.le_trans c2 (x.2.2.2.1 f t)⟩
      · rcases b4 with u | ⟨u, v⟩
        · exact Or.inl u
        · exact Or.inr ⟨x.2.2.2.2.1 _ _ u, by omega⟩
  · obtain ⟨d, b, a1, a2, a3, a4, a5, a6, a7⟩ := hB k4
    obtain ⟨z1, z2, z3, z4⟩ := z d a1
    refine ⟨d, b, a1, a2, a3, by omega, fun q => ?_, fun q => z4 _ _ (a6 q), fun q => z2 _ _ (a7 q)⟩
    obtain ⟨b1, b2⟩ := a5 q
    have no : ∀ b', b' < b → ¬ pa d f b' → ¬ pa' d f b' := by
      intro b' hb' hn hp
      rcases z3 f b' hp with u | u
      · exact hn u
      · omega
    refine ⟨Int.le_trans b1 (z1 f), ?_⟩
    rcases b2 with ⟨c1, c2⟩ | ⟨y, c1, c2, c3, c4⟩
    · exact Or.inl ⟨c1, fun b' hb' => no b' hb' (c2 b' hb')⟩
    · exact Or.inr ⟨y, c1, c2, z4 _ _ c3, fun b' hb' hy => no b' hb' (c4 b' hb' hy)⟩
end INVS
