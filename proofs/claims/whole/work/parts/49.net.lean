/-! ===== messages of the class ===== -/
theorem EN_of {h h' : HP} {a : Nat} {t c s v : Int32} (hE : ∀ f b, 300 ≤ f → f ≤ 303 → b < hN h → hI h' f b = hI h f b) (hK' : ∀ b, b < hN h → hK h' b = hK h b) (hN' : hN h ≤ hN h') (m : EN h a t c s v) : EN h' a t c s v :=
  ⟨m.1, Nat.lt_of_lt_of_le m.2.1 hN', (hK' a m.2.1).trans m.2.2.1, (hE 300 a (by decide) (by decide) m.2.1).trans m.2.2.2.1, (hE 301 a (by decide) (by decide) m.2.1).trans m.2.2.2.2.1, (hE 302 a (by decide) (by decide) m.2.1).trans m.2.2.2.2.2.1, (hE 303 a (by decide) (by decide) m.2.1).trans m.2.2.2.2.2.2⟩
theorem MSGw_of {h h' : HP} {a : Nat} {w : RW} {c : UInt32} (hI' : ∀ f, 900 ≤ f → f ≤ 913 → hI h' f a = hI h f a) (hF' : hF h' 907 a = hF h 907 a) (hA : ∀ k, hAR h' (a + 1) k = hAR h (a + 1) k) (hE : ∀ f b, 300 ≤ f → f ≤ 303 → b < hN h → hI h' f b = hI h f b) (hK' : ∀ b, b < hN h → hK h' b = hK h b) (hN' : hN h ≤ hN h') (m : MSGw w c h a) : MSGw w c h' a := by
  obtain ⟨m0, m1, m2, m3, m4, m5, m6, m7, m8, m9, m10, m11, m12, m13⟩ := m
  refine ⟨(hI' 900 (by decide) (by decide)).trans m0, (hI' 901 (by decide) (by decide)).trans m1, (hI' 902 (by decide) (by decide)).trans m2, (hI' 903 (by decide) (by decide)).trans m3, (hI' 910 (by decide) (by decide)).trans m4, fun q => (hI' 904 (by decide) (by decide)).trans (m5 q), fun q => (hI' 905 (by decide) (by decide)).trans (m6 q), fun q => (hI' 906 (by decide) (by decide)).trans (m7 q), fun q => (hI' 908 (by decide) (by decide)).trans (m8 q), fun q => (hI' 911 (by decide) (by decide)).trans (m9 q), fun q => ⟨(hI' 912 (by decide) (by decide)).trans (m10 q).1, (hI' 913 (by decide) (by decide)).trans (m10 q).2⟩, fun q => (hI' 913 (by decide) (by decide)).trans (m11 q), fun q => hF'.trans (m12 q), fun k hk q => ?_⟩
  rw [hA k]
  exact EN_of hE hK' hN' (m13 k hk q)
theorem MSGw_congr {h : HP} {a : Nat} {w w' : RW} {c : UInt32} (hw : ∀ j, j < 24 → w' j = w j) (m : MSGw w c h a) : MSGw w' c h a := by
  obtain ⟨m0, m1, m2, m3, m4, m5, m6, m7, m8, m9, m10, m11, m12, m13⟩ := m
  unfold MSGw
  rw [hw 0 (by decide), hw 1 (by decide), hw 2 (by decide), hw 3 (by decide), hw 4 (by decide), hw 5 (by decide), hw 6 (by decide), hw 7 (by decide), hw 8 (by decide), hw 9 (by decide)]
  refine ⟨m0, m1, m2, m3, m4, m5, m6, m7, m8, m9, m10, m11, m12, fun k hk q => ?_⟩
  rw [hw _ (by omega), hw _ (by omega), hw _ (by omega), hw _ (by omega)]
  exact m13 k hk q
theorem MSGw_sI {h : HP} {a b f : Nat} {v : Int32} {w : RW} {c : UInt32} (hb : b ≠ a) (hf : f < 300 ∨ 303 < f) (m : MSGw w c h b) : MSGw w c (sI h f a v) b :=
  MSGw_of (h := h) (fun f1 _ _ => by rw [hI_sI, if_neg (fun q => hb q.2)]) rfl (fun _ => rfl) (fun f1 b1 h1 h2 _ => by rw [hI_sI, if_neg (fun q => by omega)]) (fun _ _ => rfl) (Nat.le_refl _) m
theorem MSGw_sF {h : HP} {a b f : Nat} {v : UInt32} {w : RW} {c : UInt32} (hb : b ≠ a) (m : MSGw w c h b) : MSGw w c (sF h f a v) b :=
  MSGw_of (h := h) (fun f1 _ _ => rfl) (by rw [hF_sF, if_neg (fun q => hb q.2)]) (fun _ => rfl) (fun f1 b1 h1 h2 _ => rfl) (fun _ _ => rfl) (Nat.le_refl _) m
theorem MSGw_sAR {h : HP} {a b k : Nat} {v : Nat} {w : RW} {c : UInt32} (hb : b ≠ a) (m : MSGw w c h b) : MSGw w c (sAR h (a + 1) k v) b :=
  MSGw_of (h := h) (fun f1 _ _ => rfl) rfl (fun k1 => by rw [hAR_sAR, if_neg (fun q => by omega)]) (fun f1 b1 h1 h2 _ => rfl) (fun _ _ => rfl) (Nat.le_refl _) m
/-- a message's cell that is not among those in the row, nor the one taken out last -/
def FREE (S : SI) (h : HP) (a : Nat) : Prop := (mset a ∨ a = 9) ∧ (∀ p : Nat, p < 60 → (p : Int) < (S 39 0).toInt → hAR h 5 p ≠ a) ∧ hR h 1005 4 ≠ a
theorem FREE.lo {S : SI} {h : HP} {a : Nat} (hf : FREE S h a) : 7 ≤ a ∧ a ≤ 129 := by
  rcases hf.1 with (rfl | ⟨o, ho, rfl⟩) | rfl <;> omega
section NETP
variable {S : SI} {F : SF} {e : EX} {X : MX} {h : HP} {d : Nat} {Q : Out → HP → Prop} {a : Nat}
theorem fr_K (hr : RC S F e X h) (hf : FREE S h a) : hK h a = 9 := ((rcR hr).2.2.2.2 a hf.1).1
theorem fr_R (hr : RC S F e X h) (hf : FREE S h a) : hR h 909 a = a + 1 := ((rcR hr).2.2.2.2 a hf.1).2.1
theorem fr_K1 (hr : RC S F e X h) (hf : FREE S h a) : hK h (a + 1) = 27 := ((rcR hr).2.2.2.2 a hf.1).2.2.1
theorem fr_L1 (hr : RC S F e X h) (hf : FREE S h a) : hL h (a + 1) = 3 := ((rcR hr).2.2.2.2 a hf.1).2.2.2.1
theorem rc_m900 {v : Int32} (hr : RC S F e X h) (hf : FREE S h a) : RC S F e X (sI h 900 a v) := by
  obtain ⟨hs, hrow, hm, hl, hle, hc, hn, hh, hg⟩ := hr
  exact ⟨STR_sI (by decide) hs, hrow, hm, hl, hle, hc, ⟨hn.1, hn.2.1, hn.2.2.1, hn.2.2.2.1, fun p hp hq => MSGw_sI (hf.2.1 p hp hq) (by decide) (hn.2.2.2.2.1 p hp hq), MSGw_sI hf.2.2 (by decide) hn.2.2.2.2.2⟩, hh, hg⟩
theorem rc_m901 {v : Int32} (hr : RC S F e X h) (hf : FREE S h a) : RC S F e X (sI h 901 a v) := by
  obtain ⟨hs, hrow, hm, hl, hle, hc, hn, hh, hg⟩ := hr
  exact ⟨STR_sI (by decide) hs, hrow, hm, hl, hle, hc, ⟨hn.1, hn.2.1, hn.2.2.1, hn.2.2.2.1, fun p hp hq => MSGw_sI (hf.2.1 p hp hq) (by decide) (hn.2.2.2.2.1 p hp hq), MSGw_sI hf.2.2 (by decide) hn.2.2.2.2.2⟩, hh, hg⟩
theorem rc_m902 {v : Int32} (hr : RC S F e X h) (hf : FREE S h a) : RC S F e X (sI h 902 a v) := by
  obtain ⟨hs, hrow, hm, hl, hle, hc, hn, hh, hg⟩ := hr
  exact ⟨STR_sI (by decide) hs, hrow, hm, hl, hle, hc, ⟨hn.1, hn.2.1, hn.2.2.1, hn.2.2.2.1, fun p hp hq => MSGw_sI (hf.2.1 p hp hq) (by decide) (hn.2.2.2.2.1 p hp hq), MSGw_sI hf.2.2 (by decide) hn.2.2.2.2.2⟩, hh, hg⟩
theorem rc_m903 {v : Int32} (hr : RC S F e X h) (hf : FREE S h a) : RC S F e X (sI h 903 a v) := by
  obtain ⟨hs, hrow, hm, hl, hle, hc, hn, hh, hg⟩ := hr
  exact ⟨STR_sI (by decide) hs, hrow, hm, hl, hle, hc, ⟨hn.1, hn.2.1, hn.2.2.1, hn.2.2.2.1, fun p hp hq => MSGw_sI (hf.2.1 p hp hq) (by decide) (hn.2.2.2.2.1 p hp hq), MSGw_sI hf.2.2 (by decide) hn.2.2.2.2.2⟩, hh, hg⟩
theorem rc_m904 {v : Int32} (hr : RC S F e X h) (hf : FREE S h a) : RC S F e X (sI h 904 a v) := by
  obtain ⟨hs, hrow, hm, hl, hle, hc, hn, hh, hg⟩ := hr
  exact ⟨STR_sI (by decide) hs, hrow, hm, hl, hle, hc, ⟨hn.1, hn.2.1, hn.2.2.1, hn.2.2.2.1, fun p hp hq => MSGw_sI (hf.2.1 p hp hq) (by decide) (hn.2.2.2.2.1 p hp hq), MSGw_sI hf.2.2 (by decide) hn.2.2.2.2.2⟩, hh, hg⟩
theorem rc_m905 {v : Int32} (hr : RC S F e X h) (hf : FREE S h a) : RC S F e X (sI h 905 a v) := by
  obtain ⟨hs, hrow, hm, hl, hle, hc, hn, hh, hg⟩ := hr
  exact ⟨STR_sI (by decide) hs, hrow, hm, hl, hle, hc, ⟨hn.1, hn.2.1, hn.2.2.1, hn.2.2.2.1, fun p hp hq => MSGw_sI (hf.2.1 p hp hq) (by decide) (hn.2.2.2.2.1 p hp hq), MSGw_sI hf.2.2 (by decide) hn.2.2.2.2.2⟩, hh, hg⟩
theorem rc_m906 {v : Int32} (hr : RC S F e X h) (hf : FREE S h a) : RC S F e X (sI h 906 a v) := by
  obtain ⟨hs, hrow, hm, hl, hle, hc, hn, hh, hg⟩ := hr
  exact ⟨STR_sI (by decide) hs, hrow, hm, hl, hle, hc, ⟨hn.1, hn.2.1, hn.2.2.1, hn.2.2.2.1, fun p hp hq => MSGw_sI (hf.2.1 p hp hq) (by decide) (hn.2.2.2.2.1 p hp hq), MSGw_sI hf.2.2 (by decide) hn.2.2.2.2.2⟩, hh, hg⟩
theorem rc_m908 {v : Int32} (hr : RC S F e X h) (hf : FREE S h a) (hv : isZ v = true) : RC S F e X (sI h 908 a v) := by
  obtain ⟨hs, hrow, hm, hl, hle, hc, hn, hh, hg⟩ := hr
  refine ⟨STR_sI (by decide) hs, ⟨hrow.1, hrow.2.1, hrow.2.2.1, hrow.2.2.2.1, fun b hb => ⟨(hrow.2.2.2.2 b hb).1, (hrow.2.2.2.2 b hb).2.1, (hrow.2.2.2.2 b hb).2.2.1, (hrow.2.2.2.2 b hb).2.2.2.1, ?_, (hrow.2.2.2.2 b hb).2.2.2.2.2⟩⟩, hm, hl, hle, hc, ⟨hn.1, hn.2.1, hn.2.2.1, hn.2.2.2.1, fun p hp hq => MSGw_sI (hf.2.1 p hp hq) (by decide) (hn.2.2.2.2.1 p hp hq), MSGw_sI hf.2.2 (by decide) hn.2.2.2.2.2⟩, hh, hg⟩
  rw [hI_sI]
  split
  · exact hv
  · exact (hrow.2.2.2.2 b hb).2.2.2.2.1
theorem rc_m910 {v : Int32} (hr : RC S F e X h) (hf : FREE S h a) : RC S F e X (sI h 910 a v) := by
  obtain ⟨hs, hrow, hm, hl, hle, hc, hn, hh, hg⟩ := hr
  exact ⟨STR_sI (by decide) hs, hrow, hm, hl, hle, hc, ⟨hn.1, hn.2.1, hn.2.2.1, hn.2.2.2.1, fun p hp hq => MSGw_sI (hf.2.1 p hp hq) (by decide) (hn.2.2.2.2.1 p hp hq), MSGw_sI hf.2.2 (by decide) hn.2.2.2.2.2⟩, hh, hg⟩
theorem rc_m911 {v : Int32} (hr : RC S F e X h) (hf : FREE S h a) : RC S F e X (sI h 911 a v) := by
  obtain ⟨hs, hrow, hm, hl, hle, hc, hn, hh, hg⟩ := hr
  exact ⟨STR_sI (by decide) hs, hrow, hm, hl, hle, hc, ⟨hn.1, hn.2.1, hn.2.2.1, hn.2.2.2.1, fun p hp hq => MSGw_sI (hf.2.1 p hp hq) (by decide) (hn.2.2.2.2.1 p hp hq), MSGw_sI hf.2.2 (by decide) hn.2.2.2.2.2⟩, hh, hg⟩
theorem rc_m912 {v : Int32} (hr : RC S F e X h) (hf : FREE S h a) : RC S F e X (sI h 912 a v) := by
  obtain ⟨hs, hrow, hm, hl, hle, hc, hn, hh, hg⟩ := hr
  exact ⟨STR_sI (by decide) hs, hrow, hm, hl, hle, hc, ⟨hn.1, hn.2.1, hn.2.2.1, hn.2.2.2.1, fun p hp hq => MSGw_sI (hf.2.1 p hp hq) (by decide) (hn.2.2.2.2.1 p hp hq), MSGw_sI hf.2.2 (by decide) hn.2.2.2.2.2⟩, hh, hg⟩
theorem rc_m913 {v : Int32} (hr : RC S F e X h) (hf : FREE S h a) : RC S F e X (sI h 913 a v) := by
  obtain ⟨hs, hrow, hm, hl, hle, hc, hn, hh, hg⟩ := hr
  exact ⟨STR_sI (by decide) hs, hrow, hm, hl, hle, hc, ⟨hn.1, hn.2.1, hn.2.2.1, hn.2.2.2.1, fun p hp hq => MSGw_sI (hf.2.1 p hp hq) (by decide) (hn.2.2.2.2.1 p hp hq), MSGw_sI hf.2.2 (by decide) hn.2.2.2.2.2⟩, hh, hg⟩
theorem rc_m907 {v : UInt32} (hr : RC S F e X h) (hf : FREE S h a) : RC S F e X (sF h 907 a v) := by
  obtain ⟨hs, hrow, hm, hl, hle, hc, hn, hh, hg⟩ := hr
  exact ⟨hs, hrow, hm, hl, hle, hc, ⟨hn.1, hn.2.1, hn.2.2.1, hn.2.2.2.1, fun p hp hq => MSGw_sF (hf.2.1 p hp hq) (hn.2.2.2.2.1 p hp hq), MSGw_sF hf.2.2 hn.2.2.2.2.2⟩, hh, hg⟩
theorem rc_mAR {k v : Nat} (hr : RC S F e X h) (hf : FREE S h a) (hv : v = 0 ∨ (1 < v ∧ v < hN h ∧ hK h v = 3)) : RC S F e X (sAR h (a + 1) k v) := by
  have hlo := hf.lo
  have hev : a + 1 ≠ 3 ∧ a + 1 ≠ 5 ∧ a + 1 < 131 := by
    rcases hf.1 with (rfl | ⟨o, ho, rfl⟩) | rfl <;> omega
  have key : ∀ b j, b ≠ a + 1 → hAR (sAR h (a + 1) k v) b j = hAR h b j := fun b j hb => by rw [hAR_sAR, if_neg (fun q => hb q.1)]
  obtain ⟨hs, hrow, hm, hl, hle, hc, hn, hh, hg⟩ := hr
  refine ⟨⟨hs.1, hs.2.1, fun i hi => ⟨(key 3 i (by omega)).trans (hs.2.2.1 i hi).1, (hs.2.2.1 i hi).2⟩, fun i d hi hd => ⟨(key _ d (by omega)).trans (hs.2.2.2.1 i d hi hd).1, (hs.2.2.2.1 i d hi hd).2⟩, fun i hi => ⟨(key _ i (by omega)).trans (hs.2.2.2.2 i hi).1, (hs.2.2.2.2 i hi).2⟩⟩, ?_, hm, fun i hi => ⟨(hl i hi).1, fun k1 hk hq => ?_⟩, hle, hc, ⟨hn.1, hn.2.1, hn.2.2.1, hn.2.2.2.1, fun p hp hq => ?_, MSGw_sAR hf.2.2 hn.2.2.2.2.2⟩, ⟨hh.1, hh.2.1, hh.2.2.1, fun r b hb => (key 135 r (by omega)).trans (hh.2.2.2.1 r b hb), hh.2.2.2.2⟩, hg⟩
  · have e5 : ∀ p, hAR (sAR h (a + 1) k v) 5 p = hAR h 5 p := fun p => key 5 p (by omega)
    obtain ⟨r1, r2, r3, r4, r5⟩ := hrow
    refine ⟨fun p hp => ?_, r2, fun p q hp hq => ?_, fun p hp => ?_, fun b hb => ⟨(r5 b hb).1, (r5 b hb).2.1, (r5 b hb).2.2.1, (r5 b hb).2.2.2.1, (r5 b hb).2.2.2.2.1, fun j hj => ?_⟩⟩
    · rw [e5]; exact r1 p hp
    · rw [e5, e5]; exact r3 p q hp hq
    · rw [e5]; exact r4 p hp
    · show hAR (sAR h (a + 1) k v) (b + 1) j = 0 ∨ (1 < hAR (sAR h (a + 1) k v) (b + 1) j ∧ hAR (sAR h (a + 1) k v) (b + 1) j < hN h ∧ hK h (hAR (sAR h (a + 1) k v) (b + 1) j) = 3)
      rw [hAR_sAR]
      split
      · exact hv
      · exact (r5 b hb).2.2.2.2.2 j hj
  · rw [key _ _ (by omega)]
    exact (hl i hi).2 k1 hk hq
  · rw [key _ _ (by omega)]
    exact MSGw_sAR (hf.2.1 p hp hq) (hn.2.2.2.2.1 p hp hq)
/-- all that is written in a message -/
theorem FREE.sI {f b : Nat} {v : Int32} (q : FREE S h a) : FREE S (sI h f b v) a := q
theorem FREE.sF {f b : Nat} {v : UInt32} (q : FREE S h a) : FREE S (sF h f b v) a := q
theorem FREE.sAR {k v : Nat} (q : FREE S h a) : FREE S (sAR h (a + 1) k v) a := by
  have hlo := q.lo
  have hev : a + 1 ≠ 5 := by
    rcases q.1 with (rfl | ⟨o, ho, rfl⟩) | rfl <;> omega
  refine ⟨q.1, fun p hp hq => ?_, q.2.2⟩
  rw [hAR_sAR, if_neg (fun w => hev w.1.symm)]
  exact q.2.1 p hp hq
def MFI (h : HP) (a : Nat) (x0 x1 x2 x3 x4 x5 x6 : Int32) (x7 : UInt32) (x8 x10 x11 x12 x13 : Int32) : Prop := hI h 900 a = x0 ∧ hI h 901 a = x1 ∧ hI h 902 a = x2 ∧ hI h 903 a = x3 ∧ hI h 904 a = x4 ∧ hI h 905 a = x5 ∧ hI h 906 a = x6 ∧ hF h 907 a = x7 ∧ hI h 908 a = x8 ∧ hI h 910 a = x10 ∧ hI h 911 a = x11 ∧ hI h 912 a = x12 ∧ hI h 913 a = x13
theorem w_start (hr : RC S F e X h) (hf : FREE S h a) {x1 x2 x3 x4 : Int32} (k : ∀ h', RC S F e X h' → FREE S h' a → hAR h' = hAR h → hR h' = hR h → MFI h' a x1 x2 x3 x4 0 0 0 FP.fconst0 0 0 0 (-1) (-1) → Q (.inl none) h') : WP d mX9_start 0 [some (.ref a), some (.int x1), some (.int x2), some (.int x3), some (.int x4)] [] h Q := by
  have r1 := rc_m900 (v := x1) hr hf
  have f1 := hf.sI (f := 900) (b := a) (v := x1)
  have r2 := rc_m901 (v := x2) r1 f1
  have f2 := f1.sI (f := 901) (b := a) (v := x2)
  have r3 := rc_m902 (v := x3) r2 f2
  have f3 := f2.sI (f := 902) (b := a) (v := x3)
  have r4 := rc_m903 (v := x4) r3 f3
  have f4 := f3.sI (f := 903) (b := a) (v := x4)
  have r5 := rc_m904 (v := 0) r4 f4
  have f5 := f4.sI (f := 904) (b := a) (v := 0)
  have r6 := rc_m905 (v := 0) r5 f5
  have f6 := f5.sI (f := 905) (b := a) (v := 0)
  have r7 := rc_m906 (v := 0) r6 f6
  have f7 := f6.sI (f := 906) (b := a) (v := 0)
  have r8 := rc_m907 (v := FP.fconst0) r7 f7
  have f8 := f7.sF (f := 907) (b := a) (v := FP.fconst0)
  have r9 := rc_m908 (v := 0) r8 f8 rfl
  have f9 := f8.sI (f := 908) (b := a) (v := 0)
  have r10 := rc_m910 (v := 0) r9 f9
  have f10 := f9.sI (f := 910) (b := a) (v := 0)
  have r11 := rc_m911 (v := 0) r10 f10
  have f11 := f10.sI (f := 911) (b := a) (v := 0)
  have r12 := rc_m912 (v := -1) r11 f11
  have f12 := f11.sI (f := 912) (b := a) (v := -1)
  have r13 := rc_m913 (v := -1) r12 f12
  have f13 := f12.sI (f := 913) (b := a) (v := -1)
  refine bX9_start_0 ⟨fr_K hr hf, k _ r13 f13 ?_ ?_ ?_⟩
  · simp only [hAR_sI, hAR_sF]
  · simp only [hR_sI, hR_sF]
  · unfold MFI
    simp [hI_sI, hF_sI, hF_sF, hI_sF]
theorem rc_sent1 {e1 : Int32} {r : Int32 × RW × UInt32} (hr : RC S F (e1, r) X h) : RC S F (e1 + 1, r) X (sI h 1002 4 (hI h 1002 4 + 1)) := by
  have q := rd_sent hr
  obtain ⟨hs, hrow, hm, hl, hle, hc, hn, hh, hg⟩ := hr
  exact ⟨STR_sI (by decide) hs, hrow, hm, hl, hle, hc, ⟨hn.1, hn.2.1, by show hI (sI h 1002 4 (hI h 1002 4 + 1)) 1002 4 = S 40 0 + (e1 + 1); rw [q, ← Int32.add_assoc]; simp [hI_sI], hn.2.2.2⟩, hh, hg⟩
theorem rc_cnt1 {e1 : Int32} {r : RW × UInt32} (hr : RC S F (e1, 0, r) X h) : RC S F (e1, 1, r) X (sI h 1001 4 (hI h 1001 4 + 1)) := by
  have q := rd_cnt hr
  obtain ⟨hs, hrow, hm, hl, hle, hc, hn, hh, hg⟩ := hr
  exact ⟨STR_sI (by decide) hs, hrow, hm, hl, hle, hc, ⟨hn.1, by show hI (sI h 1001 4 (hI h 1001 4 + 1)) 1001 4 = S 39 0 + 1; rw [q]; simp [hI_sI], hn.2.2⟩, hh, hg⟩
theorem mset_9 {a : Nat} (hm : mset a) : a ≠ 9 := by
  rcases hm with rfl | ⟨o, ho, rfl⟩ <;> omega
theorem w_send {e1 : Int32} {e3 : RW × UInt32} (hr : RC S F (e1, 0, e3) X h) (h0 : 0 ≤ (S 39 0).toInt) (h60 : (S 39 0).toInt ≤ 60) {x1 x2 x3 x4 : Int32} {u : Option Value} (k : ∀ h' a, RC S F (e1 + 1, (if nt (S 39 0) < 60 then 1 else 0), e3) X h' → FREE S h' a → (nt (S 39 0) < 60 → hAR h' 5 (nt (S 39 0)) = a) → hAR h' = hAR h → hR h' = hR h → MFI h' a x1 x2 x3 x4 0 0 0 FP.fconst0 0 0 0 (-1) (-1) → Q (.inl (some (.ref a))) h') : WP (d + 1) mX10_send 0 [some (.ref 4), some (.int x1), some (.int x2), some (.int x3), some (.int x4), u] [] h Q := by
  have hs := rcS hr
  have hro := rcR hr
  obtain ⟨n, hn, hn60, hni⟩ := o_of h0 h60
  have hnn : nt (S 39 0) = n := by unfold nt; omega
  have hc : hI h 1001 4 = Int32.ofNat n := by rw [rd_cnt hr, hn]; exact Int32.add_zero _
  rw [hnn] at k
  refine bX10_send_0 ⟨st_K_4 hs, fun c => ?_, fun c => ?_⟩
  · rw [hc, o_nle _ _ (by decide) (by omega)] at c
    rw [if_neg (by omega)] at k
    rw [st_R_1006_4 hs]
    have hf : FREE S h 9 := ⟨Or.inr rfl, fun p hp _ => mset_9 (hro.1 p hp), mset_9 hro.2.1⟩
    refine ⟨by decide, st_K_9 hs, w_start (rc_sent1 hr) hf ?_⟩
    intro h' hr' hf' ea er hm
    rw [KK_ret]
    exact bX10_send_56 (k h' 9 hr' hf' (fun q => by omega) ea er hm)
  · rw [hc, o_nle _ _ (by decide) (by omega)] at c
    rw [if_pos (by omega)] at k
    rw [st_R_1003_4 hs, hc, o_c _ (by omega), st_K_5 hs]
    have hp : mset (hAR h 5 n) := hro.1 n (by omega)
    have hf : FREE S h (hAR h 5 n) := ⟨Or.inl hp, fun p hp hq he => by have := hro.2.2.1 p n hp (by omega) he; omega, fun he => hro.2.2.2.1 n (by omega) he.symm⟩
    refine ⟨⟨by decide, by decide⟩, inA_o (st_L_5 hs) (by omega) (by decide), by have := hf.lo; omega, fr_K hr hf, ?_⟩
    have hr2 := rc_sent1 (rc_cnt1 hr)
    rw [hc] at hr2
    refine w_start hr2 hf ?_
    intro h' hr' hf' ea er hm
    rw [KK_ret]
    exact bX10_send_56 (k h' _ hr' hf' (fun _ => by rw [ea]; rfl) ea er hm)
end NETP
section PUSHL
variable {S : SI} {F : SF} {w : RW}
theorem push_39 : pushS S w 39 0 = if nt (S 39 0) < 60 then S 39 0 + 1 else S 39 0 := by
  unfold pushS
  rw [if_neg (by omega)]
  by_cases c : nt (S 39 0) < 60
  · rw [if_pos ⟨rfl, rfl, c⟩, if_pos c]
  · rw [if_neg (fun q => c q.2.2), if_neg c]
theorem push_old {p j : Nat} (hp : p < nt (S 39 0)) (hj : j < 24) : pushS S w 37 (24 * p + j) = S 37 (24 * p + j) := by
  unfold pushS
  rw [if_neg (by omega), if_neg (by omega)]
theorem push_new {j : Nat} (hc : nt (S 39 0) < 60) (hj : j < 24) : pushS S w 37 (24 * nt (S 39 0) + j) = w j := by
  unfold pushS
  rw [if_pos ⟨rfl, hc, by omega, by omega⟩]
  congr 1
  omega
theorem nt_of {x : Int32} {n : Nat} (h : x = Int32.ofNat n) (hn : n < 2147483648) : nt x = n := by
  subst h
  unfold nt
  rw [o_i n hn]
  rfl
end PUSHL
section NETQ
variable {S : SI} {F : SF} {e : EX} {X : MX} {h : HP} {d : Nat} {Q : Out → HP → Prop} {a : Nat}
/-- the message that was sent and written -/
theorem rc_snd {e1 : Int32} {e3 : RW × UInt32} {w : RW} {c : UInt32} (h0 : 0 ≤ (S 39 0).toInt) (h60 : (S 39 0).toInt ≤ 60) (hr : RC S F (e1, (if nt (S 39 0) < 60 then 1 else 0), e3) X h) (hm : nt (S 39 0) < 60 → MSGw w c h (hAR h 5 (nt (S 39 0)))) : RC (snd (S, F) w c).1 (snd (S, F) w c).2 (e1 - 1, 0, e3) X h := by
  obtain ⟨n, hn, hn60, hni⟩ := o_of h0 h60
  have hnn : nt (S 39 0) = n := by unfold nt; omega
  have hs39 : sentS S 39 0 = S 39 0 := rfl
  obtain ⟨hs, hrow, hm', hl, hle, hc, hnet, hh, hg⟩ := hr
  refine ⟨hs, hrow, hm', hl, hle, hc, ⟨hnet.1, ?_, ?_, hnet.2.2.2.1, fun p hp hq => ?_, hnet.2.2.2.2.2⟩, hh, hg⟩
  · show hI h 1001 4 = pushS (sentS S) w 39 0 + 0
    rw [push_39, hs39, hnet.2.1, Int32.add_zero]
    show S 39 0 + (if nt (S 39 0) < 60 then 1 else 0) = _
    split <;> simp
  · show hI h 1002 4 = (S 40 0 + 1) + (e1 - 1)
    rw [hnet.2.2.1]
    show S 40 0 + e1 = _
    rw [Int32.add_assoc, Int32.add_comm 1 (e1 - 1), Int32.sub_add_cancel]
  · have hq' : (p : Int) < (pushS (sentS S) w 39 0).toInt := hq
    rw [push_39, hs39, hnn] at hq'
    by_cases c60 : n < 60
    · rw [if_pos c60, hn, o_addn, o_i _ (by omega)] at hq'
      by_cases cp : p = n
      · have hm2 := hm (by omega)
        rw [hnn] at hm2
        subst cp
        show MSGw (fun j => pushS (sentS S) w 37 (24 * p + j)) (pushF S F c 38 p) h (hAR h 5 p)
        have e2 : pushF S F c 38 p = c := by unfold pushF; rw [if_pos ⟨rfl, by omega, hnn.symm⟩]
        rw [e2]
        refine MSGw_congr (fun j hj => ?_) hm2
        have := push_new (S := sentS S) (w := w) (j := j) (by rw [hs39]; omega) hj
        rw [hs39, hnn] at this
        exact this
      · have m := hnet.2.2.2.2.1 p hp (by omega)
        show MSGw (fun j => pushS (sentS S) w 37 (24 * p + j)) (pushF S F c 38 p) h (hAR h 5 p)
        have e2 : pushF S F c 38 p = F 38 p := by unfold pushF; rw [if_neg (fun q => cp (by rw [← hnn]; exact q.2.2))]
        rw [e2]
        refine MSGw_congr (fun j hj => ?_) m
        exact (push_old (S := sentS S) (by rw [hs39]; omega) hj)
    · rw [if_neg c60] at hq'
      have m := hnet.2.2.2.2.1 p hp hq'
      show MSGw (fun j => pushS (sentS S) w 37 (24 * p + j)) (pushF S F c 38 p) h (hAR h 5 p)
      have e2 : pushF S F c 38 p = F 38 p := by unfold pushF; rw [if_neg (fun q => by omega)]
      rw [e2]
      refine MSGw_congr (fun j hj => ?_) m
      exact (push_old (S := sentS S) (by rw [hs39]; omega) hj)
theorem hrow_T (hr : RC S F e X h) : 1 < hR h 1005 4 ∧ hK h (hR h 1005 4) = acl (26 - 25) := by
  have hm := (rcR hr).2.1
  refine ⟨?_, ((rcR hr).2.2.2.2 _ (Or.inl hm)).1⟩
  rcases hm with q | ⟨o, ho, q⟩ <;> omega
theorem rc_fin {e1 : Int32} {e3 : RW × UInt32} {w : RW} {c : UInt32} (h0 : 0 ≤ (S 39 0).toInt) (h60 : (S 39 0).toInt ≤ 60) (hr : RC S F (e1 + 1, (if nt (S 39 0) < 60 then 1 else 0), e3) X h) (ha : nt (S 39 0) < 60 → hAR h 5 (nt (S 39 0)) = a) (hm : MSGw w c h a) : RC (snd (S, F) w c).1 (snd (S, F) w c).2 (e1, 0, e3) X h := by
  have q := rc_snd (w := w) (c := c) h0 h60 hr (fun q => by rw [ha q]; exact hm)
  rw [Int32.add_sub_cancel] at q
  exact q
/-- a message without entries -/
theorem MSGw_mk {w : RW} {c : UInt32} (q0 : hI h 900 a = w 0) (q1 : hI h 901 a = w 1) (q2 : hI h 902 a = w 2) (q3 : hI h 903 a = w 3) (q8 : hI h 910 a = 0) (w8 : w 8 = 0)
    (p4 : w 0 = 0 ∨ w 0 = 2 ∨ w 0 = 3 → hI h 904 a = w 4) (p5 : w 0 = 0 ∨ w 0 = 2 → hI h 905 a = w 5) (p6 : w 0 = 2 → hI h 906 a = w 6) (p7 : w 0 = 1 ∨ w 0 = 3 → hI h 908 a = w 7) (p9 : 4 ≤ w 0 → hI h 911 a = w 6) (p10 : w 0 = 5 → hI h 912 a = w 4 ∧ hI h 913 a = w 5) (p11 : w 0 = 6 → hI h 913 a = w 9) (p12 : w 0 = 2 ∨ w 0 = 3 → hF h 907 a = c) : MSGw w c h a :=
  ⟨q0, q1, q2, q3, by rw [q8, w8], p4, p5, p6, p7, p9, p10, p11, p12, fun k hk q => by rw [w8] at q; rw [i_zero] at q; omega⟩
/-- the same heap with another row -/
def setRow (h : HP) (r : Nat → Nat) : HP := mkH (hI h) (hF h) (hR h) (hAI h) (hAF h) (fun a i => if a = 5 then r i else hAR h a i) (hAL h) (hAD h) (hK h) (hL h) (hN h) (hC h) (hZ h)
theorem setRow_self (h : HP) : setRow h (hAR h 5) = h := by
  have e : (fun a i => if a = 5 then hAR h 5 i else hAR h a i) = hAR h := by
    funext a i
    split
    · rename_i c; subst c; rfl
    · rfl
  unfold setRow
  rw [e]
  rfl
theorem setRow_st (h : HP) (r : Nat → Nat) (i v : Nat) : sAR (setRow h r) 5 i v = setRow h (fun q => if q = i then v else r q) := by
  have e : u2 (hAR (setRow h r)) 5 i v = (fun a q => if a = 5 then (if q = i then v else r q) else hAR h a q) := by
    funext a q
    show (if a = 5 ∧ q = i then v else if a = 5 then r q else hAR h a q) = _
    by_cases c : a = 5
    · by_cases c2 : q = i
      · rw [if_pos ⟨c, c2⟩, if_pos c, if_pos c2]
      · rw [if_neg (fun w => c2 w.2), if_pos c, if_pos c, if_neg c2]
    · rw [if_neg (fun w => c w.1), if_neg c, if_neg c]
  unfold sAR
  rw [e]
  rfl
theorem setRow_5 (h : HP) (r : Nat → Nat) (i : Nat) : hAR (setRow h r) 5 i = r i := rfl
def shR (h : HP) (p i : Nat) : Nat → Nat := fun q => if p ≤ q ∧ q < i then hAR h 5 (q + 1) else hAR h 5 q
theorem rc_takeOut {e1 : Int32} {e3 : RW × UInt32} {n p : Nat} (hr : RC S F (e1, 0, e3) X h) (hn : S 39 0 = Int32.ofNat n) (hn60 : n ≤ 60) (hp : p < n) : RC (leaveS S p) (leaveF S F p) (e1, 0, (fun j => S 37 (24 * p + j)), F 38 p) X (sR (sAR (sI (setRow h (shR h p (n - 1))) 1001 4 (Int32.ofNat (n - 1))) 5 (n - 1) (hR h 1005 4)) 1005 4 (hAR h 5 p)) := by
  have hnn : nt (S 39 0) = n := nt_of hn (by omega)
  have key : ∀ a i, a ≠ 5 → hAR (sR (sAR (sI (setRow h (shR h p (n - 1))) 1001 4 (Int32.ofNat (n - 1))) 5 (n - 1) (hR h 1005 4)) 1005 4 (hAR h 5 p)) a i = hAR h a i := by
    intro a i ha
    show (if a = 5 ∧ i = n - 1 then hR h 1005 4 else if a = 5 then shR h p (n - 1) i else hAR h a i) = _
    rw [if_neg (fun w => ha w.1), if_neg ha]
  have k5 : ∀ i, hAR (sR (sAR (sI (setRow h (shR h p (n - 1))) 1001 4 (Int32.ofNat (n - 1))) 5 (n - 1) (hR h 1005 4)) 1005 4 (hAR h 5 p)) 5 i = if i = n - 1 then hR h 1005 4 else shR h p (n - 1) i := by
    intro i
    show (if 5 = 5 ∧ i = n - 1 then hR h 1005 4 else if 5 = 5 then shR h p (n - 1) i else hAR h 5 i) = _
    simp
  have kR : ∀ f a, (f ≠ 1005) → hR (sR (sAR (sI (setRow h (shR h p (n - 1))) 1001 4 (Int32.ofNat (n - 1))) 5 (n - 1) (hR h 1005 4)) 1005 4 (hAR h 5 p)) f a = hR h f a := by
    intro f a hf
    show (if f = 1005 ∧ a = 4 then hAR h 5 p else hR h f a) = _
    rw [if_neg (fun w => hf w.1)]
  have kT : hR (sR (sAR (sI (setRow h (shR h p (n - 1))) 1001 4 (Int32.ofNat (n - 1))) 5 (n - 1) (hR h 1005 4)) 1005 4 (hAR h 5 p)) 1005 4 = hAR h 5 p := by
    show (if 1005 = 1005 ∧ 4 = 4 then hAR h 5 p else hR h 1005 4) = _
    simp
  generalize hH : sR (sAR (sI (setRow h (shR h p (n - 1))) 1001 4 (Int32.ofNat (n - 1))) 5 (n - 1) (hR h 1005 4)) 1005 4 (hAR h 5 p) = H at key k5 kR kT ⊢
  have eI : ∀ f a, ¬ (f = 1001 ∧ a = 4) → hI H f a = hI h f a := by
    intro f a hq
    rw [← hH]
    show (if f = 1001 ∧ a = 4 then _ else hI h f a) = _
    rw [if_neg hq]
  have e1001 : hI H 1001 4 = Int32.ofNat (n - 1) := by
    rw [← hH]
    show (if 1001 = 1001 ∧ 4 = 4 then Int32.ofNat (n - 1) else hI h 1001 4) = _
    exact if_pos ⟨rfl, rfl⟩
  have eF : hF H = hF h := by rw [← hH]; rfl
  have eAI : hAI H = hAI h := by rw [← hH]; rfl
  have eAF : hAF H = hAF h := by rw [← hH]; rfl
  have eK : hK H = hK h := by rw [← hH]; rfl
  have eL : hL H = hL h := by rw [← hH]; rfl
  have eN : hN H = hN h := by rw [← hH]; rfl
  have eAL : hAL H = hAL h := by rw [← hH]; rfl
  have eAD : hAD H = hAD h := by rw [← hH]; rfl
  have eC : hC H = hC h := by rw [← hH]; rfl
  have eZ : hZ H = hZ h := by rw [← hH]; rfl
  clear hH
  obtain ⟨hs, hrow, hm, hl, hle, hc, hnet, hh, hg⟩ := hr
  have mg : ∀ {w c a}, MSGw w c h a → a + 1 ≠ 5 → MSGw w c H a := fun m ha => MSGw_of (fun f h1 h2 => eI f _ (by omega)) (by rw [eF]) (fun k => key _ k ha) (fun f b h1 h2 _ => eI f b (by omega)) (fun b _ => by rw [eK]) (by rw [eN]; exact Nat.le_refl _) m
  have ms1 : ∀ {a}, mset a → a + 1 ≠ 5 := fun hm => by rcases hm with rfl | ⟨o, ho, rfl⟩ <;> omega
  refine ⟨⟨?_, ?_, fun i hi => ?_, fun i d hi hd => ?_, fun i hi => ?_⟩, ⟨fun q hq => ?_, ?_, fun q1 q2 h1 h2 hq => ?_, fun q hq => ?_, fun a ha => ?_⟩, fun i hi => ?_, fun i hi => ⟨?_, fun k1 hk hq => ?_⟩, fun i hi => ?_, fun i d hi hd => ?_, ⟨?_, ?_, ?_, ?_, fun q hq hqn => ?_, ?_⟩, ⟨?_, ?_, ?_, fun r b hb => ?_, fun a ha hq => ?_⟩, ?_, ?_⟩
  · rw [eK, eL]; exact hs.1
  · simp (disch := decide) only [kR]; exact hs.2.1
  · have q := hs.2.2.1 i hi
    rw [key _ _ (by decide), eK, eL]
    simp (disch := omega) only [eI, kR]
    exact q
  · rw [key _ _ (by omega), eK]; exact hs.2.2.2.1 i d hi hd
  · rw [key _ _ (by decide), eK]; exact hs.2.2.2.2 i hi
  · rw [k5]
    unfold shR
    split
    · exact hrow.2.1
    · split
      · exact hrow.1 _ (by omega)
      · exact hrow.1 _ hq
  · rw [kT]; exact hrow.1 p (by omega)
  · have cs : ∀ q, q < 60 → (q = n - 1 ∧ hAR H 5 q = hR h 1005 4) ∨ (q ≠ n - 1 ∧ ∃ q', q' < 60 ∧ hAR H 5 q = hAR h 5 q' ∧ ((p ≤ q ∧ q < n - 1 ∧ q' = q + 1) ∨ (¬ (p ≤ q ∧ q < n - 1) ∧ q' = q))) := by
      intro q hq
      rw [k5]
      unfold shR
      by_cases c1 : q = n - 1
      · rw [if_pos c1]; exact Or.inl ⟨c1, rfl⟩
      · rw [if_neg c1]
        by_cases c2 : p ≤ q ∧ q < n - 1
        · rw [if_pos c2]; exact Or.inr ⟨c1, q + 1, by omega, rfl, Or.inl ⟨c2.1, c2.2, rfl⟩⟩
        · rw [if_neg c2]; exact Or.inr ⟨c1, q, hq, rfl, Or.inr ⟨c2, rfl⟩⟩
    have inj := hrow.2.2.1
    have ne := hrow.2.2.2.1
    rcases cs q1 h1 with ⟨a1, b1⟩ | ⟨a1, z1, l1, b1, d1⟩ <;> rcases cs q2 h2 with ⟨a2, b2⟩ | ⟨a2, z2, l2, b2, d2⟩ <;> rw [b1, b2] at hq
    · omega
    · exact absurd hq.symm (ne z2 l2)
    · exact absurd hq (ne z1 l1)
    · have := inj z1 z2 l1 l2 hq
      omega
  · rw [k5, kT]
    unfold shR
    have inj := hrow.2.2.1
    split
    · exact fun w => hrow.2.2.2.1 p (by omega) w.symm
    · split
      · exact fun w => by have := inj _ _ (by omega) (by omega) w; omega
      · exact fun w => by have := inj _ _ hq (by omega) w; omega
  · obtain ⟨r1, r2, r3, r4, r6, r5⟩ := hrow.2.2.2.2 a ha
    rw [eK, kR _ _ (by decide), eL, eI _ _ (by omega)]
    refine ⟨r1, r2, r3, r4, r6, fun k hk => ?_⟩
    have hne : a + 1 ≠ 5 := by
      rcases ha with (rfl | ⟨o, ho, rfl⟩) | rfl <;> omega
    rw [key _ _ hne, eN]
    exact r5 k hk
  · have q := hm i hi
    simp (disch := omega) only [eI]
    rw [eF]
    exact q
  · rw [eI _ _ (by omega)]; exact (hl i hi).1
  · rw [key _ _ (by omega)]
    exact EN_of (fun f b h1 h2 _ => eI f b (by omega)) (fun b _ => by rw [eK]) (by rw [eN]; exact Nat.le_refl _) ((hl i hi).2 k1 hk hq)
  · have q := hle i hi
    simp (disch := omega) only [eI]
    rw [eF, eAI, eAF]
    exact q
  · have q := hc i d hi hd
    simp (disch := omega) only [eI]
    exact q
  · rw [eI _ _ (by omega)]; exact hnet.1
  · show hI H 1001 4 = (S 39 0 - 1) + 0
    rw [e1001, hn, o_sub1 _ (by omega), Int32.add_zero]
  · rw [eI _ _ (by omega)]; exact hnet.2.2.1
  · rw [eAI]; exact hnet.2.2.2.1
  · have hqn' : (q : Int) < (S 39 0 - 1).toInt := hqn
    rw [hn, o_sub1 _ (by omega), o_i _ (by omega)] at hqn'
    rw [k5, if_neg (by omega)]
    unfold shR
    by_cases cq : p ≤ q
    · rw [if_pos ⟨cq, by omega⟩]
      have m := hnet.2.2.2.2.1 (q + 1) (by omega) (by rw [hn, o_i _ (by omega)]; omega)
      refine mg (MSGw_congr (w := fun j => S 37 (24 * (q + 1) + j)) (fun j hj => ?_) ?_) (ms1 (hrow.1 _ (by omega)))
      · show (if 37 = 37 ∧ (24 * p ≤ 24 * q + j ∧ 24 * q + j < 24 * (nt (S 39 0) - 1)) then S 37 (24 * q + j + 24) else _) = _
        rw [hnn, if_pos ⟨rfl, by omega, by omega⟩]
        congr 1
        omega
      · have e2 : leaveF S F p 38 q = F 38 (q + 1) := by unfold leaveF; rw [hnn, if_pos ⟨rfl, by omega, by omega⟩]
        rw [e2]
        exact m
    · rw [if_neg (by omega)]
      have m := hnet.2.2.2.2.1 q hq (by rw [hn, o_i _ (by omega)]; omega)
      refine mg (MSGw_congr (w := fun j => S 37 (24 * q + j)) (fun j hj => ?_) ?_) (ms1 (hrow.1 _ hq))
      · show (if 37 = 37 ∧ (24 * p ≤ 24 * q + j ∧ 24 * q + j < 24 * (nt (S 39 0) - 1)) then _ else (if 37 = 39 ∧ _ then _ else S 37 (24 * q + j))) = _
        rw [if_neg (by omega), if_neg (by omega)]
      · have e2 : leaveF S F p 38 q = F 38 q := by unfold leaveF; rw [if_neg (by omega)]
        rw [e2]
        exact m
  · rw [kT]
    exact mg (hnet.2.2.2.2.1 p (by omega) (by rw [hn, o_i _ (by omega)]; omega)) (ms1 (hrow.1 p (by omega)))
  · rw [eI _ _ (by omega)]; exact hh.1
  · rw [eI _ _ (by omega)]; exact hh.2.1
  · rw [eI _ _ (by omega)]; exact hh.2.2.1
  · rw [key _ _ (by decide)]; exact hh.2.2.2.1 r b hb
  · have q := hh.2.2.2.2 a ha hq
    simp (disch := omega) only [eI]
    exact q
  · unfold gGlob; rw [eF]; exact hg.1
  · obtain ⟨g1, g2, g3, g4, g5, g6, g7⟩ := hg.2
    refine ⟨fun K => ?_, fun K => ?_, by rw [eC]; exact g3, by rw [eZ]; exact g4, by rw [eL]; exact g5, by rw [eAI]; exact g6, by rw [eN, eC, eK, eL, eAL, eAD]; exact g7⟩
    · replace g1 := g1 K
      unfold STM
      simp (disch := decide) only [kR, eK, eL]
      exact g1
    · replace g2 := g2 K
      unfold RMo
      simp (disch := decide) only [eI, eF, eAI, eAF]
      exact g2
theorem w_takeOut_22 {e1 : Int32} {e3 : RW × UInt32} {n p : Nat} (hr : RC S F (e1, 0, e3) X h) (hn : S 39 0 = Int32.ofNat n) (hn60 : n ≤ 60) (hp : p < n) (k : ∀ h', RC (leaveS S p) (leaveF S F p) (e1, 0, (fun j => S 37 (24 * p + j)), F 38 p) X h' → hR h' 1005 4 = hAR h 5 p → Q (.inl none) h') :
    ∀ (m i : Nat), p ≤ i → i + m = n - 1 → WP d mX10_takeOut 22 [some (.ref 4), some (.int (Int32.ofNat p)), some (.ref (hAR h 5 p)), some (.int (Int32.ofNat i))] [] (setRow h (shR h p i)) Q := by
  have hs := rcS hr
  have hc : hI h 1001 4 = Int32.ofNat n := by rw [rd_cnt hr, hn]; exact Int32.add_zero _
  have l5 := st_L_5 hs
  have hKs : ∀ r, hK (setRow h r) = hK h := fun r => rfl
  have hIs : ∀ r, hI (setRow h r) = hI h := fun r => rfl
  have hRs : ∀ r, hR (setRow h r) = hR h := fun r => rfl
  have hLs : ∀ r, hL (setRow h r) = hL h := fun r => rfl
  intro m
  induction m with
  | zero =>
    intro i hi him
    obtain rfl : i = n - 1 := by omega
    refine bX10_takeOut_22 ?_
    rw [hKs, hIs, hRs, st_K_4 hs, st_R_1003_4 hs, hc, st_K_5 hs, o_sub1 _ (by omega)]
    have e1001 : hI (sI (setRow h (shR h p (n - 1))) 1001 4 (Int32.ofNat (n - 1))) 1001 4 = Int32.ofNat (n - 1) := by simp [hI_sI]
    rw [e1001, o_c _ (by omega), o_le _ _ (by omega) (by omega)]
    have hT := hrow_T hr
    refine ⟨rfl, fun _ => ⟨⟨by decide, by decide⟩, inA_o (L := 60) (show hL (setRow h _) 5 = 60 from l5) (by omega) (by decide), ⟨hT.1, hT.2⟩, ?_⟩, fun c => absurd (Nat.le_refl _) c⟩
    refine k _ (rc_takeOut hr hn hn60 hp) ?_
    show (if 1005 = 1005 ∧ 4 = 4 then hAR h 5 p else hR h 1005 4) = _
    exact if_pos ⟨rfl, rfl⟩
  | succ m ih =>
    intro i hi him
    refine bX10_takeOut_22 ?_
    rw [hKs, hIs, hRs, st_K_4 hs, st_R_1003_4 hs, hc, st_K_5 hs, o_sub1 _ (by omega), o_addn, o_c _ (by omega), o_c _ (by omega), o_le _ _ (by omega) (by omega), setRow_5, setRow_st]
    have hin : mset (shR h p i (i + 1)) := by
      unfold shR
      rw [if_neg (by omega)]
      exact (rcR hr).1 _ (by omega)
    have hk9 := ((rcR hr).2.2.2.2 _ (Or.inl hin)).1
    refine ⟨rfl, fun c => by omega, fun _ => ⟨⟨by decide, by decide⟩, inA_o (L := 60) (show hL (setRow h _) 5 = 60 from l5) (by omega) (by decide), inA_o (L := 60) (show hL (setRow h _) 5 = 60 from l5) (by omega) (by decide), ⟨?_, ?_⟩, ?_⟩⟩
    · rcases hin with q | ⟨o, ho, q⟩ <;> omega
    · rw [hk9]; rfl
    · have e : (fun q => if q = i then shR h p i (i + 1) else shR h p i q) = shR h p (i + 1) := by
        funext q
        unfold shR
        rw [if_neg (show ¬ (p ≤ i + 1 ∧ i + 1 < i) by omega)]
        by_cases c1 : q = i
        · subst c1
          rw [if_pos rfl, if_pos ⟨hi, by omega⟩]
        · rw [if_neg c1]
          by_cases c2 : p ≤ q ∧ q < i
          · rw [if_pos c2, if_pos ⟨c2.1, by omega⟩]
          · rw [if_neg c2, if_neg (by omega)]
      rw [e]
      exact ih (i + 1) (by omega) (by omega)
theorem w_takeOut {e1 : Int32} {e3 : RW × UInt32} {n p : Nat} {u v : Option Value} (hr : RC S F (e1, 0, e3) X h) (hn : S 39 0 = Int32.ofNat n) (hn60 : n ≤ 60) (hp : p < n) (k : ∀ h', RC (leaveS S p) (leaveF S F p) (e1, 0, (fun j => S 37 (24 * p + j)), F 38 p) X h' → hR h' 1005 4 = hAR h 5 p → Q (.inl none) h') : WP d mX10_takeOut 0 [some (.ref 4), some (.int (Int32.ofNat p)), u, v] [] h Q := by
  have hs := rcS hr
  have hc : hI h 1001 4 = Int32.ofNat n := by rw [rd_cnt hr, hn]; exact Int32.add_zero _
  refine bX10_takeOut_0 ?_
  rw [hc, st_R_1003_4 hs, st_K_5 hs, o_c _ (by omega), o_lt _ _ (by omega) (by omega), o_ltn _ _ (by decide) (by omega)]
  refine ⟨fun c => by omega, fun _ => ⟨st_K_4 hs, fun _ => ⟨⟨by decide, by decide⟩, inA_o (st_L_5 hs) (by omega) (by decide), ?_⟩, fun c => absurd hp c⟩⟩
  have e : setRow h (shR h p p) = h := by
    have : shR h p p = hAR h 5 := by
      funext q
      unfold shR
      rw [if_neg (by omega)]
    rw [this, setRow_self]
  have q := w_takeOut_22 (Q := Q) (d := d) hr hn hn60 hp k (n - 1 - p) p (Nat.le_refl _) (by omega)
  rw [e] at q
  exact q
end NETQ
