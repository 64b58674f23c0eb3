/-! ===== the mathematical state and what the class's cells say of it ===== -/
abbrev SI : Type := Nat → Nat → Int32
abbrev SF : Type := Nat → Nat → UInt32
/-- the addresses of the class's objects -/
def aM (i : Nat) : Nat := 150 + 12 * i
/-- kinds, lengths and references that never change -/
def STR (h : HP) : Prop :=
  (hK h 2 = 11 ∧ hK h 3 = 25 ∧ hL h 3 = 5 ∧ hK h 4 = 10 ∧ hK h 5 = 26 ∧ hL h 5 = 60 ∧ hK h 6 = 21 ∧ hL h 6 = 25 ∧ hK h 9 = 9 ∧ hK h 131 = 6 ∧ hK h 132 = 1 ∧ hK h 133 = 4 ∧ hK h 134 = 29 ∧ hL h 134 = 14 ∧ hK h 135 = 29 ∧ hL h 135 = 14) ∧
  (hR h 1100 2 = 3 ∧ hR h 1101 2 = 4 ∧ hR h 1102 2 = 131 ∧ hR h 1103 2 = 132 ∧ hR h 1104 2 = 133 ∧ hR h 1003 4 = 5 ∧ hR h 1004 4 = 6 ∧ hR h 1006 4 = 9 ∧ hR h 600 131 = 3 ∧ hR h 601 131 = 4 ∧ hR h 100 132 = 3 ∧ hR h 101 132 = 4 ∧ hR h 400 133 = 134 ∧ hR h 401 133 = 135) ∧
  (∀ i, i < 5 → hAR h 3 i = 150 + 12 * i ∧ hK h (150 + 12 * i) = 8 ∧ hI h 800 (150 + 12 * i) = Int32.ofNat i ∧ hR h 801 (150 + 12 * i) = 151 + 12 * i ∧ hR h 802 (150 + 12 * i) = 153 + 12 * i ∧ hR h 803 (150 + 12 * i) = 157 + 12 * i ∧
    hK h (151 + 12 * i) = 7 ∧ hR h 700 (151 + 12 * i) = 152 + 12 * i ∧ hK h (152 + 12 * i) = 27 ∧ hL h (152 + 12 * i) = 30 ∧
    hK h (153 + 12 * i) = 5 ∧ hR h 500 (153 + 12 * i) = 154 + 12 * i ∧ hR h 501 (153 + 12 * i) = 155 + 12 * i ∧ hR h 503 (153 + 12 * i) = 156 + 12 * i ∧ hK h (154 + 12 * i) = 20 ∧ hL h (154 + 12 * i) = 5 ∧ hK h (155 + 12 * i) = 20 ∧ hL h (155 + 12 * i) = 5 ∧ hK h (156 + 12 * i) = 22 ∧ hL h (156 + 12 * i) = 5 ∧
    hK h (157 + 12 * i) = 28 ∧ hL h (157 + 12 * i) = 4) ∧
  (∀ i d, i < 5 → d < 4 → hAR h (157 + 12 * i) d = 158 + 12 * i + d ∧ hK h (158 + 12 * i + d) = 2) ∧
  (∀ a, a < 14 → hAR h 134 a = 136 + a ∧ hK h (136 + a) = 0)
/-- an entry with these four numbers -/
def EN (h : HP) (a : Nat) (t c s v : Int32) : Prop := 1 < a ∧ a < hN h ∧ hK h a = 3 ∧ hI h 300 a = t ∧ hI h 301 a = c ∧ hI h 302 a = s ∧ hI h 303 a = v
def gMach (S : SI) (F : SF) (h : HP) : Prop := ∀ i, i < 5 → hI h 804 (150 + 12 * i) = S 5 i ∧ hI h 807 (150 + 12 * i) = S 11 i ∧ hI h 808 (150 + 12 * i) = S 9 i ∧ hI h 809 (150 + 12 * i) = S 10 i ∧ hI h 810 (150 + 12 * i) = S 13 i ∧ hI h 811 (150 + 12 * i) = S 18 i ∧ hI h 812 (150 + 12 * i) = S 25 i ∧ hF h 805 (150 + 12 * i) = F 7 i ∧ hF h 806 (150 + 12 * i) = F 8 i ∧ (S 25 i ≠ -1 → hF h 813 (150 + 12 * i) = F 26 i)
def gLog (S : SI) (h : HP) : Prop := ∀ i, i < 5 → hI h 701 (151 + 12 * i) = S 12 i ∧ ∀ k : Nat, k < 30 → (k : Int) < (S 12 i).toInt → EN h (hAR h (152 + 12 * i) k) (S 14 (30 * i + k)) (S 15 (30 * i + k)) (S 16 (30 * i + k)) (S 17 (30 * i + k))
/-- five bits in one number -/
def bits5 (f : Nat → Int32) : Int32 := f 0 ||| f 1 <<< 1 ||| f 2 <<< 2 ||| f 3 <<< 3 ||| f 4 <<< 4
def gLead (S : SI) (F : SF) (h : HP) : Prop := ∀ i, i < 5 → hI h 504 (153 + 12 * i) = S 23 i ∧ (S 23 i = 1 → hF h 505 (153 + 12 * i) = F 24 i) ∧ hI h 502 (153 + 12 * i) = bits5 (fun j => S 21 (5 * i + j)) ∧ ∀ j, j < 5 → hAI h (154 + 12 * i) j = S 19 (5 * i + j) ∧ hAI h (155 + 12 * i) j = S 20 (5 * i + j) ∧ hAF h (156 + 12 * i) j = if S 21 (5 * i + j) = 1 then F 22 (5 * i + j) else FP.fconst0
def gCho (S : SI) (h : HP) : Prop := ∀ i d, i < 5 → d < 4 → hI h 200 (158 + 12 * i + d) = S 27 (4 * i + d) ∧ hI h 201 (158 + 12 * i + d) = S 28 (4 * i + d) ∧ hI h 202 (158 + 12 * i + d) = S 29 (4 * i + d) ∧ hI h 203 (158 + 12 * i + d) = S 30 (4 * i + d) ∧ hI h 204 (158 + 12 * i + d) = S 31 (4 * i + d) ∧
  (S 31 (4 * i + d) ≠ -1 → hI h 206 (158 + 12 * i + d) = S 35 (4 * i + d) ∧ hI h 207 (158 + 12 * i + d) = (if S 35 (4 * i + d) = 1 then S 36 (4 * i + d) else S 33 (4 * i + d)) ∧ (S 35 (4 * i + d) = 1 → hI h 205 (158 + 12 * i + d) = S 32 (4 * i + d)) ∧ (S 35 (4 * i + d) ≠ 1 → hI h 208 (158 + 12 * i + d) = S 34 (4 * i + d) ∧ (if S 34 (4 * i + d) = -1 then hI h 205 (158 + 12 * i + d) else hI h 209 (158 + 12 * i + d)) = S 32 (4 * i + d)))
/-- the message at cell a says what the 24 numbers w say, and a clock -/
def MSGw (w : Nat → Int32) (c : UInt32) (h : HP) (a : Nat) : Prop := hI h 900 a = w 0 ∧ hI h 901 a = w 1 ∧ hI h 902 a = w 2 ∧ hI h 903 a = w 3 ∧ hI h 910 a = w 8 ∧
  (w 0 = 0 ∨ w 0 = 2 ∨ w 0 = 3 → hI h 904 a = w 4) ∧ (w 0 = 0 ∨ w 0 = 2 → hI h 905 a = w 5) ∧ (w 0 = 2 → hI h 906 a = w 6) ∧ (w 0 = 1 ∨ w 0 = 3 → hI h 908 a = w 7) ∧
  (4 ≤ w 0 → hI h 911 a = w 6) ∧ (w 0 = 5 → hI h 912 a = w 4 ∧ hI h 913 a = w 5) ∧ (w 0 = 6 → hI h 913 a = w 9) ∧ (w 0 = 2 ∨ w 0 = 3 → hF h 907 a = c) ∧
  (∀ k : Nat, k < 3 → (k : Int) < (w 8).toInt → EN h (hAR h (a + 1) k) (w (10 + 4 * k)) (w (11 + 4 * k)) (w (12 + 4 * k)) (w (13 + 4 * k)))
def MSG (S : SI) (F : SF) (h : HP) (a p : Nat) : Prop := MSGw (fun j => S 37 (24 * p + j)) (F 38 p) h a
/-- the places of the 61 messages that go round: 7, 11, 13 .. 129 -/
def mset (a : Nat) : Prop := a = 7 ∨ ∃ o, o < 60 ∧ a = 11 + 2 * o
/-- the row of messages: all of the 61 but the one taken out last, each once -/
def gRow (h : HP) : Prop := (∀ p, p < 60 → mset (hAR h 5 p)) ∧ mset (hR h 1005 4) ∧ (∀ p q, p < 60 → q < 60 → hAR h 5 p = hAR h 5 q → p = q) ∧ (∀ p, p < 60 → hAR h 5 p ≠ hR h 1005 4) ∧ (∀ a, mset a ∨ a = 9 → hK h a = 9 ∧ hR h 909 a = a + 1 ∧ hK h (a + 1) = 27 ∧ hL h (a + 1) = 3)
/-- what the class's cells say beside the reference's: sent and the count of messages are so much more, and the message taken out last -/
abbrev EX : Type := Int32 × Int32 × (Nat → Int32) × UInt32
def gNet (S : SI) (F : SF) (e : EX) (h : HP) : Prop := hI h 1000 4 = S 0 0 ∧ hI h 1001 4 = S 39 0 + e.2.1 ∧ hI h 1002 4 = S 40 0 + e.1 ∧ (∀ k, k < 25 → hAI h 6 k = S 6 k) ∧ (∀ p : Nat, p < 60 → (p : Int) < (S 39 0).toInt → MSG S F h (hAR h 5 p) p) ∧ MSGw e.2.2.1 e.2.2.2 h (hR h 1005 4)
/-- the reads among the first n acts, in order -/
def rds (w : Nat → Int32) : Nat → List Nat
  | 0 => []
  | n + 1 => if w n = 1 then rds w n else rds w n ++ [n]
def gHist (S : SI) (h : HP) : Prop := hI h 402 133 = S 47 0 ∧ hI h 403 133 = S 4 0 ∧ hI h 404 133 = Int32.ofNat (rds (S 41) (S 47 0).toNatClampNeg).length ∧ (∀ r a, (rds (S 41) (S 47 0).toNatClampNeg)[r]? = some a → hAR h 135 r = 136 + a) ∧
  ∀ a : Nat, a < 14 → (a : Int) < (S 47 0).toInt → hI h 0 (136 + a) = S 41 a ∧ (S 41 a = 1 → hI h 1 (136 + a) = S 42 a ∧ hI h 2 (136 + a) = S 43 a) ∧ hI h 3 (136 + a) = S 44 a ∧ hI h 4 (136 + a) = S 45 a ∧ hI h 5 (136 + a) = S 46 a
def gGlob (F : SF) (h : HP) : Prop := hF h 1105 2 = F 1 0 ∧ hF h 602 131 = F 2 0 ∧ hF h 603 131 = F 3 0
/-- a bundle: the content of the reference (ints, floats), cells and slots made, length and content of the script -/
abbrev MX : Type := SI × SF × Nat × Nat × Nat × (Nat → Int32)
/-- the reference's own cells: what never changes -/
abbrev STM (h : HP) : Prop := hK h 210 = 12 ∧ hK h 253 = 23 ∧ hL h 253 = 1 ∧ hK h 254 = 24 ∧ hL h 254 = 1 ∧ hK h 1 = 19 ∧ hR h 1205 210 = 211 ∧ hK h 211 = 21 ∧ hL h 211 = 5 ∧ hR h 1206 210 = 212 ∧ hK h 212 = 21 ∧ hL h 212 = 25 ∧ hR h 1207 210 = 213 ∧ hK h 213 = 22 ∧ hL h 213 = 5 ∧ hR h 1208 210 = 214 ∧ hK h 214 = 22 ∧ hL h 214 = 5 ∧ hR h 1209 210 = 215 ∧ hK h 215 = 20 ∧ hL h 215 = 5 ∧ hR h 1210 210 = 216 ∧ hK h 216 = 20 ∧ hL h 216 = 5 ∧ hR h 1211 210 = 217 ∧ hK h 217 = 20 ∧ hL h 217 = 5 ∧ hR h 1212 210 = 218 ∧ hK h 218 = 20 ∧ hL h 218 = 5 ∧ hR h 1213 210 = 219 ∧ hK h 219 = 20 ∧ hL h 219 = 5 ∧ hR h 1214 210 = 220 ∧ hK h 220 = 20 ∧ hL h 220 = 150 ∧ hR h 1215 210 = 221 ∧ hK h 221 = 20 ∧ hL h 221 = 150 ∧ hR h 1216 210 = 222 ∧ hK h 222 = 20 ∧ hL h 222 = 150 ∧ hR h 1217 210 = 223 ∧ hK h 223 = 20 ∧ hL h 223 = 150 ∧ hR h 1218 210 = 224 ∧ hK h 224 = 20 ∧ hL h 224 = 5 ∧ hR h 1219 210 = 225 ∧ hK h 225 = 20 ∧ hL h 225 = 25 ∧ hR h 1220 210 = 226 ∧ hK h 226 = 20 ∧ hL h 226 = 25 ∧ hR h 1221 210 = 227 ∧ hK h 227 = 21 ∧ hL h 227 = 25 ∧ hR h 1222 210 = 228 ∧ hK h 228 = 22 ∧ hL h 228 = 25 ∧ hR h 1223 210 = 229 ∧ hK h 229 = 21 ∧ hL h 229 = 5 ∧ hR h 1224 210 = 230 ∧ hK h 230 = 22 ∧ hL h 230 = 5 ∧ hR h 1225 210 = 231 ∧ hK h 231 = 20 ∧ hL h 231 = 5 ∧ hR h 1226 210 = 232 ∧ hK h 232 = 22 ∧ hL h 232 = 5 ∧ hR h 1227 210 = 233 ∧ hK h 233 = 20 ∧ hL h 233 = 20 ∧ hR h 1228 210 = 234 ∧ hK h 234 = 20 ∧ hL h 234 = 20 ∧ hR h 1229 210 = 235 ∧ hK h 235 = 20 ∧ hL h 235 = 20 ∧ hR h 1230 210 = 236 ∧ hK h 236 = 20 ∧ hL h 236 = 20 ∧ hR h 1231 210 = 237 ∧ hK h 237 = 20 ∧ hL h 237 = 20 ∧ hR h 1232 210 = 238 ∧ hK h 238 = 20 ∧ hL h 238 = 20 ∧ hR h 1233 210 = 239 ∧ hK h 239 = 20 ∧ hL h 239 = 20 ∧ hR h 1234 210 = 240 ∧ hK h 240 = 20 ∧ hL h 240 = 20 ∧ hR h 1235 210 = 241 ∧ hK h 241 = 21 ∧ hL h 241 = 20 ∧ hR h 1236 210 = 242 ∧ hK h 242 = 20 ∧ hL h 242 = 20 ∧ hR h 1237 210 = 243 ∧ hK h 243 = 20 ∧ hL h 243 = 1440 ∧ hR h 1238 210 = 244 ∧ hK h 244 = 22 ∧ hL h 244 = 60 ∧ hR h 1241 210 = 245 ∧ hK h 245 = 21 ∧ hL h 245 = 14 ∧ hR h 1242 210 = 246 ∧ hK h 246 = 20 ∧ hL h 246 = 14 ∧ hR h 1243 210 = 247 ∧ hK h 247 = 20 ∧ hL h 247 = 14 ∧ hR h 1244 210 = 248 ∧ hK h 248 = 20 ∧ hL h 248 = 14 ∧ hR h 1245 210 = 249 ∧ hK h 249 = 20 ∧ hL h 249 = 14 ∧ hR h 1246 210 = 250 ∧ hK h 250 = 20 ∧ hL h 250 = 14 ∧ hR h 1248 210 = 251 ∧ hK h 251 = 20 ∧ hL h 251 = 16384 ∧ hR h 1249 210 = 252 ∧ hK h 252 = 20 ∧ hL h 252 = 24
/-- the reference's own cells hold M and G -/
abbrev RMo (M : SI) (G : SF) (h : HP) : Prop := hI h 1200 210 = M 0 0 ∧ hI h 1204 210 = M 4 0 ∧ hI h 1239 210 = M 39 0 ∧ hI h 1240 210 = M 40 0 ∧ hI h 1247 210 = M 47 0 ∧ hI h 1250 210 = M 50 0 ∧ hF h 1201 210 = G 1 0 ∧ hF h 1202 210 = G 2 0 ∧ hF h 1203 210 = G 3 0 ∧ hAI h 211 = M 5 ∧ hAI h 212 = M 6 ∧ hAF h 213 = G 7 ∧ hAF h 214 = G 8 ∧ hAI h 215 = M 9 ∧ hAI h 216 = M 10 ∧ hAI h 217 = M 11 ∧ hAI h 218 = M 12 ∧ hAI h 219 = M 13 ∧ hAI h 220 = M 14 ∧ hAI h 221 = M 15 ∧ hAI h 222 = M 16 ∧ hAI h 223 = M 17 ∧ hAI h 224 = M 18 ∧ hAI h 225 = M 19 ∧ hAI h 226 = M 20 ∧ hAI h 227 = M 21 ∧ hAF h 228 = G 22 ∧ hAI h 229 = M 23 ∧ hAF h 230 = G 24 ∧ hAI h 231 = M 25 ∧ hAF h 232 = G 26 ∧ hAI h 233 = M 27 ∧ hAI h 234 = M 28 ∧ hAI h 235 = M 29 ∧ hAI h 236 = M 30 ∧ hAI h 237 = M 31 ∧ hAI h 238 = M 32 ∧ hAI h 239 = M 33 ∧ hAI h 240 = M 34 ∧ hAI h 241 = M 35 ∧ hAI h 242 = M 36 ∧ hAI h 243 = M 37 ∧ hAF h 244 = G 38 ∧ hAI h 245 = M 41 ∧ hAI h 246 = M 42 ∧ hAI h 247 = M 43 ∧ hAI h 248 = M 44 ∧ hAI h 249 = M 45 ∧ hAI h 250 = M 46 ∧ hAI h 251 = M 48 ∧ hAI h 252 = M 49
def gMod (X : MX) (h : HP) : Prop := STM h ∧ RMo X.1 X.2.1 h ∧ hC h = X.2.2.1 ∧ hZ h = X.2.2.2.1 ∧ hL h 1 = X.2.2.2.2.1 ∧ hAI h 1 = X.2.2.2.2.2 ∧ 255 ≤ hN h
/-- the class's cells say S and F (its sent being e more); the rest is as X says -/
def RC (S : SI) (F : SF) (e : EX) (X : MX) (h : HP) : Prop := STR h ∧ gRow h ∧ gMach S F h ∧ gLog S h ∧ gLead S F h ∧ gCho S h ∧ gNet S F e h ∧ gHist S h ∧ gGlob F h ∧ gMod X h
