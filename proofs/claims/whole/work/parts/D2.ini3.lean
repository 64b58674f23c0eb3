/-! ===== the class's constructor ===== -/
section INI3
variable {h h' h0 : HP} {x : Nat → Prop} {d : Nat} {Q : Out → HP → Prop}
def zS : SI := fun _ _ => 0
def zF : SF := fun _ _ => 0
def mFst : SI := u2 zS 1000 0 1
/-- what is made before the machines -/
def BF (h : HP) : Prop := (hK h 2 = 11 ∧ hK h 3 = 25 ∧ hL h 3 = 5 ∧ hK h 4 = 10 ∧ hK h 131 = 6 ∧ hK h 132 = 1 ∧ hK h 133 = 4) ∧ (hR h 1100 2 = 3 ∧ hR h 1101 2 = 4 ∧ hR h 1102 2 = 131 ∧ hR h 1103 2 = 132 ∧ hR h 1104 2 = 133 ∧ hR h 600 131 = 3 ∧ hR h 601 131 = 4 ∧ hR h 100 132 = 3 ∧ hR h 101 132 = 4) ∧ NET1 h ∧ HS1 h ∧ ∀ c, c < 14 → hAR h 134 c = 136 + c ∧ hK h (136 + c) = 0
theorem NET1.frx (q : FRX h h' x) (hn : 131 ≤ hN h) (x4 : ¬ x 4) (x5 : ¬ x 5) (xm : ∀ b, 6 < b → b < 131 → ¬ x b) (w : NET1 h) : NET1 h' := by
  obtain ⟨a1, a2, a3, a4, a5, a6, a7, a8, a9, b0⟩ := w
  refine ⟨(q.R _ 4 (by omega) x4).trans a1, (q.R _ 4 (by omega) x4).trans a2, (q.R _ 4 (by omega) x4).trans a3, (q.R _ 4 (by omega) x4).trans a4, (q.K 5 (by omega)).trans a5, (q.L 5 (by omega)).trans a6, (q.K 6 (by omega)).trans a7, (q.L 6 (by omega)).trans a8, fun a ha => ?_, fun p hp => (q.AR 5 p (by omega) x5).trans (b0 p hp)⟩
  have hb : 7 ≤ a ∧ a ≤ 129 := by
    rcases ha with ha | rfl
    · have := mset_hi ha
      omega
    · omega
  exact (a9 a ha).frx q (by omega) (xm a (by omega) (by omega)) (xm _ (by omega) (by omega))
theorem BF.frx (q : FRX h h' x) (hn : 150 ≤ hN h) (hx : ∀ b, b ≠ 3 → b < 150 → ¬ x b) (w : BF h) : BF h' := by
  obtain ⟨⟨a1, a2, a3, a4, a5, a6, a7⟩, ⟨b1, b2, b3, b4, b5, b6, b7, b8, b9⟩, c1, c2, c3⟩ := w
  have x2 := hx 2 (by decide) (by decide)
  have x31 := hx 131 (by decide) (by decide)
  have x32 := hx 132 (by decide) (by decide)
  refine ⟨⟨(q.K _ (by omega)).trans a1, (q.K _ (by omega)).trans a2, (q.L _ (by omega)).trans a3, (q.K _ (by omega)).trans a4, (q.K _ (by omega)).trans a5, (q.K _ (by omega)).trans a6, (q.K _ (by omega)).trans a7⟩, ⟨(q.R _ _ (by omega) x2).trans b1, (q.R _ _ (by omega) x2).trans b2, (q.R _ _ (by omega) x2).trans b3, (q.R _ _ (by omega) x2).trans b4, (q.R _ _ (by omega) x2).trans b5, (q.R _ _ (by omega) x31).trans b6, (q.R _ _ (by omega) x31).trans b7, (q.R _ _ (by omega) x32).trans b8, (q.R _ _ (by omega) x32).trans b9⟩, c1.frx q (by omega) (hx 4 (by decide) (by decide)) (hx 5 (by decide) (by decide)) (fun b h1 h2 => hx b (by omega) (by omega)), c2.frx q (by omega) (hx 133 (by decide) (by decide)), fun c hc => ⟨(q.AR _ _ (by omega) (hx 134 (by decide) (by decide))).trans (c3 c hc).1, (q.K _ (by omega)).trans (c3 c hc).2⟩⟩
/-- the first i machines made -/
def LPM (h : HP) (i : Nat) : Prop := hN h = 150 + 12 * i ∧ BF h ∧ ∀ m, m < i → hAR h 3 m = 150 + 12 * m ∧ hK h (150 + 12 * m) = 8 ∧ SM1 h (150 + 12 * m) (Int32.ofNat m) ∧ ∀ c, c < 4 → hAR h (150 + 12 * m + 7) c = 150 + 12 * m + 8 + c ∧ hK h (150 + 12 * m + 8 + c) = 2
theorem rc_first (fr : FRX h0 h (fun _ => False)) (h2 : hN h0 = 2) (hC0 : hC h0 = 0) (hk1 : hK h0 1 = 19) (w : LPM h 5) : RC zS zF (0, 0, (fun _ => 0), 0) (mFst, zF, hC h, hZ h, hL h 1, hAI h 1) h := by
  obtain ⟨n5, ⟨⟨a1, a2, a3, a4, a5, a6, a7⟩, ⟨b1, b2, b3, b4, b5, b6, b7, b8, b9⟩, ⟨n1, n2, n3, n4, n5', n6, n7, n8, n9, n0⟩, ⟨s1, s2, s3, s4, s5, s6⟩, c3⟩, hm⟩ := w
  have hI0 : ∀ f b, 2 ≤ b → b < 210 → f ≠ 800 → hI h f b = 0 := fun f b g1 g2 g3 => fr.nI f b (by omega) (by omega) g3
  have hF0 : ∀ f b, 2 ≤ b → b < 210 → hF h f b = 0 := fun f b g1 g2 => fr.nF f b (by omega) (by omega)
  have hAI0 : ∀ b j, 2 ≤ b → b < 210 → hAI h b j = 0 := fun b j g1 g2 => fr.nAI b j (by omega) (by omega)
  have hAF0 : ∀ b j, 2 ≤ b → b < 210 → hAF h b j = 0 := fun b j g1 g2 => fr.nAF b j (by omega) (by omega)
  have hc := fr.C
  have m1 : mFst 1000 0 = 1 := by decide
  have z1 : zS 31 0 ≠ -1 := by decide
  have nz : (0 : Int32) ≠ -1 := by decide
  have no : (0 : Int32) ≠ 1 := by decide
  have mg : ∀ a, 2 ≤ a → a < 210 → MSGw (fun _ => 0) 0 h a := fun a g1 g2 => ⟨hI0 _ a g1 g2 (by decide), hI0 _ a g1 g2 (by decide), hI0 _ a g1 g2 (by decide), hI0 _ a g1 g2 (by decide), hI0 _ a g1 g2 (by decide), fun _ => hI0 _ a g1 g2 (by decide), fun _ => hI0 _ a g1 g2 (by decide), fun _ => hI0 _ a g1 g2 (by decide), fun _ => hI0 _ a g1 g2 (by decide), fun _ => hI0 _ a g1 g2 (by decide), fun _ => ⟨hI0 _ a g1 g2 (by decide), hI0 _ a g1 g2 (by decide)⟩, fun _ => hI0 _ a g1 g2 (by decide), fun _ => hF0 _ a g1 g2, fun k hk hq => absurd hq (by
    show ¬ ((k : Int) < (0 : Int32).toInt)
    have e : (0 : Int32).toInt = 0 := by decide
    omega)⟩
  refine ⟨⟨⟨a1, a2, a3, a4, n5', n6, n7, n8, (n9 9 (Or.inr rfl)).1, a5, a6, a7, s3, s4, s5, s6⟩, ⟨b1, b2, b3, b4, b5, n1, n2, n4, b6, b7, b8, b9, s1, s2⟩, fun i hi => ?_, fun i d hi hd => ?_, c3⟩, ⟨fun p hp => ?_, ?_, fun p q hp hq => ?_, fun p hp => ?_, fun a ha => ?_⟩, fun i hi => ?_, fun i hi => ⟨?_, fun k hk hq => ?_⟩, fun i hi => ⟨?_, fun q => ?_, ?_, fun j hj => ⟨?_, ?_, ?_⟩⟩, fun i d hi hd => ?_, ⟨?_, ?_, ?_, fun k hk => ?_, fun p hp hq => ?_, ?_⟩, ⟨?_, ?_, ?_, fun r a q => ?_, fun a ha q => ?_⟩, ⟨?_, ?_, ?_⟩, fun K => ?_, fun K => ?_, rfl, rfl, rfl, rfl, ⟨by omega, by omega, (fr.K 1 (by omega)).trans hk1⟩, fun K => ?_⟩
  · obtain ⟨g1, g2, ⟨t0, t1, t2, t3, t4, t5, t6, t7, t8, t9, u0, u1, u2', u3, u4, u5, u6, u7, u8, u9⟩, g4⟩ := hm i hi
    have e1 : 151 + 12 * i = 150 + 12 * i + 1 := by omega
    have e2 : 152 + 12 * i = 150 + 12 * i + 2 := by omega
    have e3 : 153 + 12 * i = 150 + 12 * i + 3 := by omega
    have e4 : 154 + 12 * i = 150 + 12 * i + 4 := by omega
    have e5 : 155 + 12 * i = 150 + 12 * i + 5 := by omega
    have e6 : 156 + 12 * i = 150 + 12 * i + 6 := by omega
    have e7 : 157 + 12 * i = 150 + 12 * i + 7 := by omega
    rw [e1, e2, e3, e4, e5, e6, e7]
    exact ⟨g1, g2, t0, t1, t2, t3, t4, t5, t6, t7, t8, t9, u0, u1, u2', u3, u4, u5, u6, u7, u8, u9⟩
  · have g4 := (hm i hi).2.2.2 d hd
    have e7 : 157 + 12 * i = 150 + 12 * i + 7 := by omega
    have e8 : 158 + 12 * i + d = 150 + 12 * i + 8 + d := by omega
    rw [e7, e8]
    exact g4
  · rw [n0 p hp]; exact Or.inr ⟨p, hp, rfl⟩
  · rw [n3]; exact Or.inl rfl
  · rw [n0 p hp, n0 q hq]; intro e; omega
  · rw [n0 p hp, n3]; omega
  · have hb : 7 ≤ a ∧ a ≤ 129 := by
      rcases ha with ha | rfl
      · have := mset_hi ha
        omega
      · omega
    obtain ⟨g1, g2, g3, g4, g5⟩ := n9 a ha
    exact ⟨g1, g2, g3, g4, by rw [hI0 _ a (by omega) (by omega) (by decide)]; decide, fun k _ => Or.inl (g5 k)⟩
  · exact ⟨hI0 _ _ (by omega) (by omega) (by decide), hI0 _ _ (by omega) (by omega) (by decide), hI0 _ _ (by omega) (by omega) (by decide), hI0 _ _ (by omega) (by omega) (by decide), hI0 _ _ (by omega) (by omega) (by decide), hI0 _ _ (by omega) (by omega) (by decide), hI0 _ _ (by omega) (by omega) (by decide), hF0 _ _ (by omega) (by omega), hF0 _ _ (by omega) (by omega), fun _ => hF0 _ _ (by omega) (by omega)⟩
  · exact hI0 _ _ (by omega) (by omega) (by decide)
  · exact absurd hq (by
      show ¬ ((k : Int) < (0 : Int32).toInt)
      have e : (0 : Int32).toInt = 0 := by decide
      omega)
  · exact hI0 _ _ (by omega) (by omega) (by decide)
  · exact hF0 _ _ (by omega) (by omega)
  · exact (hI0 _ _ (by omega) (by omega) (by decide)).trans (show (0 : Int32) = bits5 (fun _ => 0) by decide)
  · exact hAI0 _ _ (by omega) (by omega)
  · exact hAI0 _ _ (by omega) (by omega)
  · exact (hAF0 _ _ (by omega) (by omega)).trans (by rw [if_neg (show ¬ zS 21 (5 * i + j) = 1 from no)]; decide)
  · have z : ∀ f, f ≠ 800 → hI h f (158 + 12 * i + d) = 0 := fun f hf => hI0 f _ (by omega) (by omega) hf
    refine ⟨z _ (by decide), z _ (by decide), z _ (by decide), z _ (by decide), z _ (by decide), fun _ => ⟨z _ (by decide), ?_, fun q => absurd q no, fun _ => ⟨z _ (by decide), ?_⟩⟩⟩
    · rw [if_neg (show ¬ zS 35 (4 * i + d) = 1 from no)]; exact z _ (by decide)
    · rw [if_neg (show ¬ zS 34 (4 * i + d) = -1 from nz)]; exact z _ (by decide)
  · exact hI0 _ _ (by omega) (by omega) (by decide)
  · exact (hI0 _ _ (by omega) (by omega) (by decide)).trans (show (0 : Int32) = 0 + 0 by decide)
  · exact (hI0 _ _ (by omega) (by omega) (by decide)).trans (show (0 : Int32) = 0 + 0 by decide)
  · exact hAI0 _ _ (by omega) (by omega)
  · exact absurd hq (by
      show ¬ ((p : Int) < (0 : Int32).toInt)
      have e : (0 : Int32).toInt = 0 := by decide
      omega)
  · rw [n3]; exact mg 7 (by decide) (by decide)
  · exact hI0 _ _ (by omega) (by omega) (by decide)
  · exact hI0 _ _ (by omega) (by omega) (by decide)
  · exact (hI0 _ _ (by omega) (by omega) (by decide)).trans (show (0 : Int32) = Int32.ofNat (rds (zS 41) (zS 47 0).toNatClampNeg).length by decide)
  · have e : (zS 47 0).toNatClampNeg = 0 := by decide
    rw [e] at q
    cases q
  · exact absurd q (by
      show ¬ ((a : Int) < (0 : Int32).toInt)
      have e : (0 : Int32).toInt = 0 := by decide
      omega)
  · exact hF0 _ _ (by omega) (by omega)
  · exact hF0 _ _ (by omega) (by omega)
  · exact hF0 _ _ (by omega) (by omega)
  · exact absurd (m1.symm.trans K) (by decide)
  · exact absurd (m1.symm.trans K) (by decide)
  · exact absurd (m1.symm.trans K) (by decide)
end INI3
