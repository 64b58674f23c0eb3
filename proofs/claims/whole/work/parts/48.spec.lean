/-! ===== what each call does to the content, in the reference's way ===== -/
def nt (x : Int32) : Nat := x.toInt.toNat
/-- a row of 24 numbers -/
abbrev RW : Type := Nat → Int32
def w4 (a b c d : Int32) : RW := fun j => if j = 0 then a else if j = 1 then b else if j = 2 then c else if j = 3 then d else 0
def wu (w : RW) (i : Nat) (v : Int32) : RW := fun j => if j = i then v else w j
def pushS (S : SI) (w : RW) : SI := fun s k => if s = 37 ∧ (nt (S 39 0) < 60 ∧ 24 * nt (S 39 0) ≤ k ∧ k < 24 * nt (S 39 0) + 24) then w (k - 24 * nt (S 39 0)) else if s = 39 ∧ (k = 0 ∧ nt (S 39 0) < 60) then S 39 0 + 1 else S s k
def pushF (S : SI) (F : SF) (c : UInt32) : SF := fun s k => if s = 38 ∧ (nt (S 39 0) < 60 ∧ k = nt (S 39 0)) then c else F s k
def leaveS (S : SI) (p : Nat) : SI := fun s k => if s = 37 ∧ (24 * p ≤ k ∧ k < 24 * (nt (S 39 0) - 1)) then S 37 (k + 24) else if s = 39 ∧ k = 0 then S 39 0 - 1 else S s k
def leaveF (S : SI) (F : SF) (p : Nat) : SF := fun s k => if s = 38 ∧ (p ≤ k ∧ k < nt (S 39 0) - 1) then F 38 (k + 1) else F s k
abbrev PT : Type := SI × SF
def sentS (S : SI) : SI := u2 S 40 0 (S 40 0 + 1)
def snd (P : PT) (w : RW) (c : UInt32) : PT := (pushS (sentS P.1) w, pushF P.1 P.2 c)
/-- to all others among the first j machines, by rising numbers -/
def toAll (g : Nat → RW) (c : UInt32) (m : Nat) : Nat → PT → PT
  | 0, P => P
  | j + 1, P => if j = m then toAll g c m j P else snd (toAll g c m j P) (g j) c
def stepS (S : SI) : SI := u2 S 4 0 (S 4 0 + 1)
def followS (S : SI) (m : Nat) : SI := u2 (u2 S 11 m 0) 23 m 0
def learnS (S : SI) (m : Nat) (t : Int32) : SI := if S 9 m < t then followS (u2 (u2 S 9 m t) 10 m (-1)) m else S
def bitI (x : Int32) : Int32 := (1 : Int32) <<< (x &&& 31)
def dropS (S : SI) (m : Nat) : SI := fun s k => if s = 31 ∧ (4 * m ≤ k ∧ k < 4 * m + 4) then -1 else S s k
def crashS (S : SI) (m : Nat) : SI := dropS (u2 (followS (u2 S 5 m 0) m) 13 m 0) m
def riseS (S : SI) (m : Nat) : SI := u2 (u2 S 5 m 1) 25 m (Int32.ofNat m)
def riseF (F : SF) (m : Nat) : SF := u2 F 26 m (FP.fadd (F 7 m) (F 2 0))
def toggleP (P : PT) (m : Nat) : PT := if P.1 5 m = 1 then (crashS P.1 m, P.2) else (riseS P.1 m, riseF P.2 m)
def cutS (S : SI) (a b : Nat) : SI := u2 (u2 S 6 (5 * a + b) (b2i (decide (S 6 (5 * a + b) = 0)))) 6 (5 * b + a) (b2i (decide (S 6 (5 * a + b) = 0)))
def passF (F : SF) (x : UInt32) : Nat → SF
  | 0 => u2 F 1 0 (FP.fadd (F 1 0) x)
  | j + 1 => u2 (passF F x j) 7 j (FP.fadd (F 7 j) (FP.fmul x (F 8 j)))
def twiceS (S : SI) (p : Nat) : SI := pushS S (fun j => S 37 (24 * p + j))
def standS (S : SI) (m : Nat) : SI := u2 (u2 (u2 (u2 (u2 S 9 m (S 9 m + 1)) 10 m (Int32.ofNat m)) 11 m 1) 23 m 0) 18 m (bitI (Int32.ofNat m))
def askW (S : SI) (m j : Nat) : RW := wu (wu (w4 0 (Int32.ofNat m) (Int32.ofNat j) (S 9 m)) 4 (S 12 m)) 5 (tmAt S m (S 12 m))
def standP (P : PT) (m n : Nat) : PT := toAll (askW (standS P.1 m) m) FP.fconst0 m n (standS P.1 m, P.2)
/-- how many entries go to o -/
def manyN (S : SI) (m o : Nat) : Nat := min 3 (nt (S 12 m) - nt (S 19 (5 * m + o)))
def entW (S : SI) (m p many : Nat) : RW := fun j => if 10 ≤ j ∧ j < 10 + 4 * many then S (14 + (j - 10) % 4) (30 * m + p + (j - 10) / 4) else 0
def apW (S : SI) (m o : Nat) : RW := fun j => if j = 0 then 2 else if j = 1 then Int32.ofNat m else if j = 2 then Int32.ofNat o else if j = 3 then S 9 m else if j = 4 then S 19 (5 * m + o) else if j = 5 then tmAt S m (S 19 (5 * m + o)) else if j = 6 then S 13 m else if j = 8 then Int32.ofNat (manyN S m o) else entW S m (nt (S 19 (5 * m + o))) (manyN S m o) j
def beatP (P : PT) (m n : Nat) : PT := toAll (apW P.1 m) (P.2 7 m) m n P
def beatN (S : SI) (m : Nat) : Nat → Nat
  | 0 => 0
  | j + 1 => if j = m then beatN S m j else beatN S m j + manyN S m j
/-- where the k-th entry is put at the end of the log of m -/
def putS (S : SI) (m : Nat) (t c s v : Int32) : SI := u2 (u2 (u2 (u2 (u2 S 14 (30 * m + nt (S 12 m)) t) 15 (30 * m + nt (S 12 m)) c) 16 (30 * m + nt (S 12 m)) s) 17 (30 * m + nt (S 12 m)) v) 12 m (S 12 m + 1)
def actS (S : SI) (w c s v ans : Int32) : SI := u2 (u2 (u2 (u2 (u2 (u2 (u2 S 41 (nt (S 47 0)) w) 42 (nt (S 47 0)) c) 43 (nt (S 47 0)) s) 44 (nt (S 47 0)) v) 45 (nt (S 47 0)) (S 4 0)) 46 (nt (S 47 0)) ans) 47 0 (S 47 0 + 1)
/-- the write of that client and serial from act j on, m of them; none: as many as there are, and more -/
def actOf (S : SI) (c s : Int32) : Nat → Nat → Option Nat
  | _, 0 => none
  | j, m + 1 => if S 41 j = 1 ∧ S 42 j = c ∧ S 43 j = s then some j else actOf S c s (j + 1) m
def requestS (S : SI) (m : Nat) (c s v : Int32) : SI :=
  let S1 := if (actOf S c s 0 (nt (S 47 0))).isSome = true then S else actS S 1 c s v (-1)
  if outd S1 m c s (nt (S1 12 m)) = true then S1 else putS S1 m (S1 9 m) c s v
def readS (S : SI) (m : Nat) : SI := actS S 0 0 0 (valU S m (nt (S 13 m))) (S 4 0)
/-- the least ballot of machine m above b -/
def nextB (m : Nat) (b : Int32) : Int32 := if b.toInt < m then Int32.ofNat m else Int32.ofNat (8 * ((nt b - m) / 8 + 1) + m)
def propS (S : SI) (m d : Nat) (v : Int32) : SI :=
  let k := 4 * m + d
  let b := nextB m (S 27 k)
  u2 (u2 (u2 (u2 (u2 (u2 (u2 S 27 k b) 31 k b) 32 k (if S 28 k = -1 then v else S 29 k)) 34 k (S 28 k)) 33 k (bitI (Int32.ofNat m))) 35 k 0) 36 k 0
def prepW (m o d : Nat) (b : Int32) : RW := wu (w4 4 (Int32.ofNat m) (Int32.ofNat o) b) 6 (Int32.ofNat d)
def propP (P : PT) (m n d : Nat) (v : Int32) : PT := toAll (fun o => prepW m o d (nextB m (P.1 27 (4 * m + d)))) FP.fconst0 m n (propS P.1 m d v, P.2)
/-! deliver -/
def takeS (S : SI) (p : Nat) : SI := fun s k => if s = 49 ∧ k < 24 then S 37 (24 * p + k) else S s k
def givesB (S : SI) (F : SF) (m : Nat) (w : RW) : Bool := decide (w 3 = S 9 m) && (decide (S 10 m = -1) || decide (S 10 m = w 1)) && (decide (tmAt S m (S 12 m) < w 5) || decide (w 5 = tmAt S m (S 12 m)) && decide (S 12 m ≤ w 4)) && !(promB S F m && decide (S 25 m ≠ w 1))
def askedP (P : PT) (m : Nat) (w : RW) : PT := snd (if givesB P.1 P.2 m w = true then u2 P.1 10 m (w 1) else P.1, P.2) (wu (w4 1 (Int32.ofNat m) (w 1) (P.1 9 m)) 7 (b2i (givesB P.1 P.2 m w))) FP.fconst0
/-- how many of the five bits are set -/
def pbit (x : Int32) (j : Nat) : Int32 := (x >>> (Int32.ofNat j &&& 31)) &&& 1
def popN (x : Int32) : Int32 := 0 + pbit x 0 + pbit x 1 + pbit x 2 + pbit x 3 + pbit x 4
def mostI (S : SI) : Int32 := S 0 0 / 2 + 1
def startS (S : SI) (m : Nat) : SI := fun s k => if s = 11 ∧ k = m then 2 else if s = 23 ∧ k = m then 0 else if s = 19 ∧ (5 * m ≤ k ∧ k < 5 * m + 5) then S 12 m else if s = 20 ∧ (5 * m ≤ k ∧ k < 5 * m + 5) then 0 else if s = 21 ∧ (5 * m ≤ k ∧ k < 5 * m + 5) then 0 else S s k
def votedS (S : SI) (m : Nat) (w : RW) : SI := if ¬ S 11 m = 1 ∨ ¬ w 3 = S 9 m ∨ w 7 = 0 then S else
  let S1 := u2 S 18 m (S 18 m ||| bitI (w 1))
  if mostI S ≤ popN (S 18 m ||| bitI (w 1)) then startS S1 m else S1
def ackW (S : SI) (m : Nat) (o : Int32) (yes : Int32) (x : Int32) : RW := wu (wu (w4 3 (Int32.ofNat m) o (S 9 m)) 4 x) 7 yes
def cutP (S : SI) (m : Nat) (x : Int32) : SI := u2 S 12 m x
/-- the entries k and on, j of them, that came with w, put behind place p -/
def putsS (m p : Nat) (w : RW) : Nat → SI → SI
  | 0, S => S
  | k + 1, S => let S1 := putsS m p w k S
    if tmAt S1 m (Int32.ofNat (p + k + 1)) = w (10 + 4 * k) then S1 else putS (cutP S1 m (Int32.ofNat (p + k))) m (w (10 + 4 * k)) (w (11 + 4 * k)) (w (12 + 4 * k)) (w (13 + 4 * k))
def iMin (x y : Int32) : Int32 := if x < y then x else y
def iMax (x y : Int32) : Int32 := if y < x then x else y
def appendedP (P : PT) (m : Nat) (w : RW) (c : UInt32) : PT := if w 3 < P.1 9 m then snd P (ackW P.1 m (w 1) 0 0) c else
  let S1 := followS P.1 m
  if ¬ w 4 = 0 ∧ ¬ tmAt S1 m (w 4) = w 5 then snd (S1, P.2) (ackW S1 m (w 1) 0 (iMin (w 4 - 1) (S1 12 m))) c else
  let S2 := putsS m (nt (w 4)) w (nt (w 8)) S1
  let S3 := u2 (u2 S2 13 m (iMax (iMin (w 6) (w 4 + w 8)) (S2 13 m))) 25 m (w 1)
  snd (S3, u2 P.2 26 m (FP.fadd (P.2 7 m) (P.2 2 0))) (ackW S3 m (w 1) 1 (w 4 + w 8)) c
/-- how many others of m know x entries to be the same, among the first j -/
def knowN (S : SI) (m : Nat) (x : Int32) : Nat → Nat
  | 0 => 0
  | j + 1 => knowN S m x j + (if ¬ j = m ∧ x ≤ S 20 (5 * m + j) then 1 else 0)
/-- the greatest number up to x that k others know to be the same -/
def rankN (S : SI) (m n k : Nat) : Nat → Nat
  | 0 => 0
  | x + 1 => if k ≤ knowN S m (Int32.ofNat (x + 1)) n then x + 1 else rankN S m n k x
def sameS (S : SI) (m : Nat) (w : RW) : SI := if S 20 (5 * m + nt (w 1)) < w 4 then u2 (u2 S 20 (5 * m + nt (w 1)) (w 4)) 19 (5 * m + nt (w 1)) (w 4) else S
def commitS (S : SI) (m : Nat) : SI :=
  let r := Int32.ofNat (rankN S m (nt (S 0 0)) (nt (S 0 0) / 2) (nt (S 12 m)))
  if S 13 m < r ∧ tmAt S m r = S 9 m then u2 S 13 m r else S
def fge (a b : UInt32) : Bool := fltG b a || decide (FP.fcmp a b = some .eq)
/-- how many others answered since then -/
def sinceN (S : SI) (F : SF) (m o : Nat) : Nat → Nat
  | 0 => 0
  | k + 1 => sinceN S F m o k + (if ¬ k = m ∧ S 21 (5 * m + k) = 1 ∧ S 21 (5 * m + o) = 1 ∧ 0 ≤ Op.cmpValue (FP.fcmp (F 22 (5 * m + k)) (F 22 (5 * m + o))) .l then 1 else 0)
def enoB (S : SI) (F : SF) (m n o : Nat) : Bool := decide (¬ o = m ∧ n / 2 ≤ sinceN S F m o n)
/-- whether any of the first j is answered by enough, and the greatest of their clocks -/
def bestF (S : SI) (F : SF) (m n : Nat) : Nat → Bool × UInt32
  | 0 => (false, FP.fconst0)
  | o + 1 => (let q := bestF S F m n o
    (q.1 || enoB S F m n o, if enoB S F m n o = true ∧ (q.1 = false ∨ 0 < Op.cmpValue (FP.fcmp (F 22 (5 * m + o)) q.2) .l) then F 22 (5 * m + o) else q.2))
def leaseP (P : PT) (m : Nat) : PT := if (bestF P.1 P.2 m (nt (P.1 0 0)) (nt (P.1 0 0))).1 = true then (u2 P.1 23 m 1, u2 P.2 24 m (FP.fadd (bestF P.1 P.2 m (nt (P.1 0 0)) (nt (P.1 0 0))).2 (FP.fmul (P.2 2 0) (FP.fsub FP.fconst1 (P.2 3 0))))) else P
def clockP (P : PT) (m : Nat) (w : RW) (c : UInt32) : PT := (u2 P.1 21 (5 * m + nt (w 1)) 1, u2 P.2 22 (5 * m + nt (w 1)) (if P.1 21 (5 * m + nt (w 1)) = 1 ∧ 0 < Op.cmpValue (FP.fcmp (P.2 22 (5 * m + nt (w 1))) c) .l then P.2 22 (5 * m + nt (w 1)) else c))
def ackedP (P : PT) (m : Nat) (w : RW) (c : UInt32) : PT := if ¬ P.1 11 m = 2 ∨ ¬ w 3 = P.1 9 m then P else
  if w 7 = 0 then (u2 P.1 19 (5 * m + nt (w 1)) (w 4), P.2) else
  leaseP (clockP (commitS (sameS P.1 m w) m, P.2) m w c) m
def preparedP (P : PT) (m : Nat) (w : RW) : PT :=
  let k := 4 * m + nt (w 6)
  if P.1 27 k < w 3 then snd (u2 P.1 27 k (w 3), P.2) (wu (wu (wu (w4 5 (Int32.ofNat m) (w 1) (w 3)) 4 (P.1 28 k)) 5 (P.1 29 k)) 6 (w 6)) FP.fconst0 else P
def tellS (S : SI) (k : Nat) (w : RW) : SI :=
  let S1 := u2 S 33 k (S 33 k ||| bitI (w 1))
  if S 34 k < w 4 then u2 (u2 S1 34 k (w 4)) 32 k (w 5) else S1
def goOnS (S : SI) (m k : Nat) : SI := u2 (u2 (u2 (u2 S 35 k 1) 28 k (S 31 k)) 29 k (S 32 k)) 36 k (bitI (Int32.ofNat m))
def accW (S : SI) (m k o : Nat) (d : Int32) : RW := wu (wu (w4 6 (Int32.ofNat m) (Int32.ofNat o) (S 31 k)) 6 d) 9 (S 32 k)
def promisedP (P : PT) (m : Nat) (w : RW) : PT :=
  let k := 4 * m + nt (w 6)
  if ¬ P.1 31 k = w 3 ∨ ¬ P.1 27 k = w 3 ∨ P.1 35 k = 1 then P else
  let S1 := tellS P.1 k w
  if popN (S1 33 k) < mostI S1 then (S1, P.2) else
  toAll (fun o => accW (goOnS S1 m k) m k o (w 6)) FP.fconst0 m (nt (S1 0 0)) (goOnS S1 m k, P.2)
def acceptedP (P : PT) (m : Nat) (w : RW) : PT :=
  let k := 4 * m + nt (w 6)
  if w 3 < P.1 27 k then P else
  snd (u2 (u2 (u2 P.1 27 k (w 3)) 28 k (w 3)) 29 k (w 9), P.2) (wu (w4 7 (Int32.ofNat m) (w 1) (w 3)) 6 (w 6)) FP.fconst0
def countsS (S : SI) (m : Nat) (w : RW) : SI :=
  let k := 4 * m + nt (w 6)
  if S 31 k = w 3 ∧ S 35 k = 1 then
    let S1 := u2 S 36 k (S 36 k ||| bitI (w 1))
    if mostI S ≤ popN (S1 36 k) ∧ S 30 k = -1 then u2 S1 30 k (S 32 k) else S1
  else S
def hearP (P : PT) (m : Nat) (w : RW) (c : UInt32) : PT :=
  let P1 : PT := if w 0 ≤ 3 then (learnS P.1 m (w 3), P.2) else P
  if w 0 = 0 then askedP P1 m w else if w 0 = 1 then (votedS P1.1 m w, P1.2) else if w 0 = 2 then appendedP P1 m w c else if w 0 = 3 then ackedP P1 m w c else
  if w 0 = 4 then preparedP P1 m w else if w 0 = 5 then promisedP P1 m w else if w 0 = 6 then acceptedP P1 m w else (countsS P1.1 m w, P1.2)
/-- whether the act's entry is agreed at a leader -/
def agrB (S : SI) (a : Nat) : Bool := (List.range (nt (S 0 0))).any (fun i => decide (S 11 i = 2) && (List.range (nt (S 13 i))).any (fun k => decide (S 15 (30 * i + k) = S 42 a) && decide (S 16 (30 * i + k) = S 43 a)))
def endsS (S : SI) : SI := fun s k => if s = 46 ∧ (k < nt (S 47 0) ∧ S 41 k = 1 ∧ S 46 k = -1 ∧ agrB S k = true) then S 4 0 else S s k
def delivP (P : PT) (p : Nat) : PT :=
  let w : RW := fun j => P.1 37 (24 * p + j)
  let P1 := hearP (leaveS (takeS (u2 P.1 40 0 0) p) p, leaveF P.1 P.2 p) (nt (w 2)) w (P.2 38 p)
  (endsS P1.1, P1.2)
def beginS (S : SI) (n : Int32) : SI := fun s k =>
  if s = 0 ∧ k = 0 then n else if s = 4 ∧ k = 0 then 0 else if s = 39 ∧ k = 0 then 0 else if s = 47 ∧ k = 0 then 0 else
  if s = 5 ∧ k < 5 then 1 else if s = 9 ∧ k < 5 then 0 else if s = 10 ∧ k < 5 then -1 else if s = 11 ∧ k < 5 then 0 else if s = 12 ∧ k < 5 then 0 else if s = 13 ∧ k < 5 then 0 else if s = 18 ∧ k < 5 then 0 else if s = 23 ∧ k < 5 then 0 else if s = 25 ∧ k < 5 then -1 else
  if s = 6 ∧ k < 25 then 0 else if s = 27 ∧ k < 20 then -1 else if s = 28 ∧ k < 20 then -1 else if s = 29 ∧ k < 20 then -1 else if s = 30 ∧ k < 20 then -1 else if s = 31 ∧ k < 20 then -1 else S s k
def beginF (F : SF) : SF := fun s k => if s = 1 ∧ k = 0 then FP.fconst0 else if s = 2 ∧ k = 0 then 0x41200000 else if s = 3 ∧ k = 0 then FP.fconst0 else if s = 7 ∧ k < 5 then FP.fconst0 else if s = 8 ∧ k < 5 then FP.fconst1 else F s k
