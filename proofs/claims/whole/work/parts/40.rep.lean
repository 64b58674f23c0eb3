/-! ===== the mathematical state and what the class's cells say of it ===== -/
abbrev SI : Type := Nat → Nat → Int32
abbrev SF : Type := Nat → Nat → UInt32
/-- the addresses of the class's objects -/
def aM (i : Nat) : Nat := 150 + 12 * i
/-- kinds, lengths and references that never change -/
def STR (h : HP) : Prop :=
  (hK h 2 = 11 ∧ hK h 3 = 25 ∧ hL h 3 = 5 ∧ hK h 4 = 10 ∧ hK h 5 = 26 ∧ hL h 5 = 60 ∧ hK h 6 = 21 ∧ hL h 6 = 25 ∧ hK h 9 = 9 ∧ hK h 131 = 6 ∧ hK h 132 = 1 ∧ hK h 133 = 4 ∧ hK h 134 = 29 ∧ hL h 134 = 14 ∧ hK h 135 = 29 ∧ hL h 135 = 14) ∧
  (hR h 1100 2 = 3 ∧ hR h 1101 2 = 4 ∧ hR h 1102 2 = 131 ∧ hR h 1103 2 = 132 ∧ hR h 1104 2 = 133 ∧ hR h 1003 4 = 5 ∧ hR h 1004 4 = 6 ∧ hR h 1006 4 = 9 ∧ hR h 600 131 = 3 ∧ hR h 601 131 = 4 ∧ hR h 100 132 = 3 ∧ hR h 101 132 = 4 ∧ hR h 400 133 = 134 ∧ hR h 401 133 = 135) ∧
  (∀ i, i < 5 → hAR h 3 i = 150 + 12 * i ∧ hK h (150 + 12 * i) = 8 ∧ hI h 800 (150 + 12 * i) = Int32.ofNat i ∧ hR h 801 (150 + 12 * i) = 151 + 12 * i ∧ hR h 802 (150 + 12 * i) = 153 + 12 * i ∧ hR h 803 (150 + 12 * i) = 157 + 12 * i ∧
    hK h (151 + 12 * i) = 7 ∧ hR h 700 (151 + 12 * i) = 152 + 12 * i ∧ hK h (152 + 12 * i) = 27 ∧ hL h (152 + 12 * i) = 30 ∧
    hK h (153 + 12 * i) = 5 ∧ hR h 500 (153 + 12 * i) = 154 + 12 * i ∧ hR h 501 (153 + 12 * i) = 155 + 12 * i ∧ hR h 503 (153 + 12 * i) = 156 + 12 * i ∧ hK h (154 + 12 * i) = 20 ∧ hL h (154 + 12 * i) = 5 ∧ hK h (155 + 12 * i) = 20 ∧ hL h (155 + 12 * i) = 5 ∧ hK h (156 + 12 * i) = 22 ∧ hL h (156 + 12 * i) = 5 ∧
    hK h (157 + 12 * i) = 28 ∧ hL h (157 + 12 * i) = 4) ∧
  (∀ i d, i < 5 → d < 4 → hAR h (157 + 12 * i) d = 158 + 12 * i + d ∧ hK h (158 + 12 * i + d) = 2) ∧
  (∀ a, a < 14 → hAR h 134 a = 136 + a ∧ hK h (136 + a) = 0)
/-- an entry with these four numbers -/
def EN (h : HP) (a : Nat) (t c s v : Int32) : Prop := 1 < a ∧ a < hN h ∧ hK h a = 3 ∧ hI h 300 a = t ∧ hI h 301 a = c ∧ hI h 302 a = s ∧ hI h 303 a = v
def gMach (S : SI) (F : SF) (h : HP) : Prop := ∀ i, i < 5 → hI h 804 (150 + 12 * i) = S 5 i ∧ hI h 807 (150 + 12 * i) = S 11 i ∧ hI h 808 (150 + 12 * i) = S 9 i ∧ hI h 809 (150 + 12 * i) = S 10 i ∧ hI h 810 (150 + 12 * i) = S 13 i ∧ hI h 811 (150 + 12 * i) = S 18 i ∧ hI h 812 (150 + 12 * i) = S 25 i ∧ hF h 805 (150 + 12 * i) = F 7 i ∧ hF h 806 (150 + 12 * i) = F 8 i ∧ (S 25 i ≠ -1 → hF h 813 (150 + 12 * i) = F 26 i)
def gLog (S : SI) (h : HP) : Prop := ∀ i, i < 5 → hI h 701 (151 + 12 * i) = S 12 i ∧ ∀ k : Nat, k < 30 → (k : Int) < (S 12 i).toInt → EN h (hAR h (152 + 12 * i) k) (S 14 (30 * i + k)) (S 15 (30 * i + k)) (S 16 (30 * i + k)) (S 17 (30 * i + k))
/-- five bits in one number -/
def bits5 (f : Nat → Int32) : Int32 := f 0 ||| f 1 <<< 1 ||| f 2 <<< 2 ||| f 3 <<< 3 ||| f 4 <<< 4
def gLead (S : SI) (F : SF) (h : HP) : Prop := ∀ i, i < 5 → hI h 504 (153 + 12 * i) = S 23 i ∧ (S 23 i = 1 → hF h 505 (153 + 12 * i) = F 24 i) ∧ hI h 502 (153 + 12 * i) = bits5 (fun j => S 21 (5 * i + j)) ∧ ∀ j, j < 5 → hAI h (154 + 12 * i) j = S 19 (5 * i + j) ∧ hAI h (155 + 12 * i) j = S 20 (5 * i + j) ∧ hAF h (156 + 12 * i) j = if S 21 (5 * i + j) = 1 then F 22 (5 * i + j) else FP.fconst0
def gCho (S : SI) (h : HP) : Prop := ∀ i d, i < 5 → d < 4 → hI h 200 (158 + 12 * i + d) = S 27 (4 * i + d) ∧ hI h 201 (158 + 12 * i + d) = S 28 (4 * i + d) ∧ hI h 202 (158 + 12 * i + d) = S 29 (4 * i + d) ∧ hI h 203 (158 + 12 * i + d) = S 30 (4 * i + d) ∧ hI h 204 (158 + 12 * i + d) = S 31 (4 * i + d) ∧
  (S 31 (4 * i + d) ≠ -1 → hI h 206 (158 + 12 * i + d) = S 35 (4 * i + d) ∧ hI h 207 (158 + 12 * i + d) = (if S 35 (4 * i + d) = 1 then S 36 (4 * i + d) else S 33 (4 * i + d)) ∧ (S 35 (4 * i + d) = 1 → hI h 205 (158 + 12 * i + d) = S 32 (4 * i + d)) ∧ (S 35 (4 * i + d) ≠ 1 → hI h 208 (158 + 12 * i + d) = S 34 (4 * i + d) ∧ (if S 34 (4 * i + d) = -1 then hI h 205 (158 + 12 * i + d) else hI h 209 (158 + 12 * i + d)) = S 32 (4 * i + d)))
/-- the message at cell a says what 24 numbers from b on say, and a clock -/
def MSG (S : SI) (F : SF) (h : HP) (a p : Nat) : Prop := hI h 900 a = S 37 (24 * p) ∧ hI h 901 a = S 37 (24 * p + 1) ∧ hI h 902 a = S 37 (24 * p + 2) ∧ hI h 903 a = S 37 (24 * p + 3) ∧ hI h 910 a = S 37 (24 * p + 8) ∧
  (S 37 (24 * p) = 0 ∨ S 37 (24 * p) = 2 ∨ S 37 (24 * p) = 3 → hI h 904 a = S 37 (24 * p + 4)) ∧ (S 37 (24 * p) = 0 ∨ S 37 (24 * p) = 2 → hI h 905 a = S 37 (24 * p + 5)) ∧ (S 37 (24 * p) = 2 → hI h 906 a = S 37 (24 * p + 6)) ∧ (S 37 (24 * p) = 1 ∨ S 37 (24 * p) = 3 → hI h 908 a = S 37 (24 * p + 7)) ∧
  (4 ≤ S 37 (24 * p) → hI h 911 a = S 37 (24 * p + 6)) ∧ (S 37 (24 * p) = 5 → hI h 912 a = S 37 (24 * p + 4) ∧ hI h 913 a = S 37 (24 * p + 5)) ∧ (S 37 (24 * p) = 6 → hI h 913 a = S 37 (24 * p + 9)) ∧ (S 37 (24 * p) = 2 ∨ S 37 (24 * p) = 3 → hF h 907 a = F 38 p) ∧
  (∀ k : Nat, k < 3 → (k : Int) < (S 37 (24 * p + 8)).toInt → EN h (hAR h (a + 1) k) (S 37 (24 * p + 10 + 4 * k)) (S 37 (24 * p + 11 + 4 * k)) (S 37 (24 * p + 12 + 4 * k)) (S 37 (24 * p + 13 + 4 * k)))
/-- the places of the 61 messages that go round: 7, 11, 13 .. 129 -/
def mset (a : Nat) : Prop := a = 7 ∨ ∃ o, o < 60 ∧ a = 11 + 2 * o
/-- the row of messages: all of the 61 but the one taken out last, each once -/
def gRow (h : HP) : Prop := (∀ p, p < 60 → mset (hAR h 5 p)) ∧ mset (hR h 1005 4) ∧ (∀ p q, p < 60 → q < 60 → hAR h 5 p = hAR h 5 q → p = q) ∧ (∀ p, p < 60 → hAR h 5 p ≠ hR h 1005 4) ∧ (∀ a, mset a ∨ a = 9 → hK h a = 9 ∧ hR h 909 a = a + 1 ∧ hK h (a + 1) = 27 ∧ hL h (a + 1) = 3)
def gNet (S : SI) (F : SF) (e : Int32) (h : HP) : Prop := hI h 1000 4 = S 0 0 ∧ hI h 1001 4 = S 39 0 ∧ hI h 1002 4 = S 40 0 + e ∧ (∀ k, k < 25 → hAI h 6 k = S 6 k) ∧ ∀ p : Nat, p < 60 → (p : Int) < (S 39 0).toInt → MSG S F h (hAR h 5 p) p
/-- the reads among the first n acts, in order -/
def rds (w : Nat → Int32) : Nat → List Nat
  | 0 => []
  | n + 1 => if w n = 1 then rds w n else rds w n ++ [n]
def gHist (S : SI) (h : HP) : Prop := hI h 402 133 = S 47 0 ∧ hI h 403 133 = S 4 0 ∧ hI h 404 133 = Int32.ofNat (rds (S 41) (S 47 0).toNatClampNeg).length ∧ (∀ r a, (rds (S 41) (S 47 0).toNatClampNeg)[r]? = some a → hAR h 135 r = 136 + a) ∧
  ∀ a : Nat, a < 14 → (a : Int) < (S 47 0).toInt → hI h 0 (136 + a) = S 41 a ∧ (S 41 a = 1 → hI h 1 (136 + a) = S 42 a ∧ hI h 2 (136 + a) = S 43 a) ∧ hI h 3 (136 + a) = S 44 a ∧ hI h 4 (136 + a) = S 45 a ∧ hI h 5 (136 + a) = S 46 a
def gGlob (F : SF) (h : HP) : Prop := hF h 1105 2 = F 1 0 ∧ hF h 602 131 = F 2 0 ∧ hF h 603 131 = F 3 0
/-- the class's cells say S and F (its sent being e more) -/
def RC (S : SI) (F : SF) (e : Int32) (h : HP) : Prop := STR h ∧ gRow h ∧ gMach S F h ∧ gLog S h ∧ gLead S F h ∧ gCho S h ∧ gNet S F e h ∧ gHist S h ∧ gGlob F h
