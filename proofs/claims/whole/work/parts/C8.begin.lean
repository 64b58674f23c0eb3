/-! ===== what holds after begin ===== -/
section BGI
variable {st n na : Nat} {g : YG} {pa : Nat → ZA} {pv : Nat → ZV} {S : SI} {F : SF}
def g0 : YG := (fun _ => none, fun _ => [], fun _ _ => 0, fun _ _ => [], fun _ _ => none)
def pa0 : Nat → ZA := fun _ _ _ => False
def pv0 : Nat → ZV := fun _ _ => none
/-- what begin needs -/
def BASE (S : SI) (F : SF) : Prop := (∀ k, k < 25 → S 21 k = 0 ∨ S 21 k = 1) ∧ CHZ S ∧ (∀ k, k < 25 → S 21 k = 1 → fpF (F 22 k))
theorem INV.base (h : INV st n na g pa pv S F) : BASE S F := ⟨fun k hk => (h.2.2.1 k hk).2, h.2.2.2.2.2.1, h.2.2.2.2.2.2.2.2.2.2.2.2.2.1⟩
theorem base0 : BASE (fun _ _ => 0) (fun _ _ => 0) := ⟨fun _ _ => Or.inl rfl, fun _ _ => ⟨Or.inl rfl, ⟨0, rfl, by decide⟩, ⟨0, rfl, by decide⟩, show (-1 : Int) ≤ (0 : Int32).toInt by decide⟩, fun _ _ w => absurd (show (0 : Int32) = 1 from w) (by decide)⟩
theorem fpF_c0 : fpF FP.fconst0 := by unfold fpF; decide
theorem inv_begin (hb : BASE S F) {x : Int32} (hx : x = 3 ∨ x = 5) : INV st (nt x) 0 g0 pa0 pv0 (beginS S x) (beginF F) := by
  have hn : x = Int32.ofNat (nt x) ∧ (nt x = 3 ∨ nt x = 5) := by
    rcases hx with rfl | rfl
    · exact ⟨rfl, Or.inl rfl⟩
    · exact ⟨rfl, Or.inr rfl⟩
  obtain ⟨hn1, hn2⟩ := hn
  generalize nt x = n at hn1 hn2 ⊢
  have e0 : beginS S x 0 0 = x := by simp [beginS]
  have e4 : beginS S x 4 0 = 0 := by simp [beginS]
  have e39 : beginS S x 39 0 = 0 := by simp [beginS]
  have e47 : beginS S x 47 0 = 0 := by simp [beginS]
  have e5 : ∀ m, m < 5 → beginS S x 5 m = 1 := fun m hm => by simp [beginS, hm]
  have e9 : ∀ m, m < 5 → beginS S x 9 m = 0 := fun m hm => by simp [beginS, hm]
  have e10 : ∀ m, m < 5 → beginS S x 10 m = -1 := fun m hm => by simp [beginS, hm]
  have e11 : ∀ m, m < 5 → beginS S x 11 m = 0 := fun m hm => by simp [beginS, hm]
  have e12 : ∀ m, m < 5 → beginS S x 12 m = 0 := fun m hm => by simp [beginS, hm]
  have e13 : ∀ m, m < 5 → beginS S x 13 m = 0 := fun m hm => by simp [beginS, hm]
  have e18 : ∀ m, m < 5 → beginS S x 18 m = 0 := fun m hm => by simp [beginS, hm]
  have e23 : ∀ m, m < 5 → beginS S x 23 m = 0 := fun m hm => by simp [beginS, hm]
  have e6 : ∀ k, k < 25 → beginS S x 6 k = 0 := fun k hk => by simp [beginS, hk]
  have e21 : ∀ k, beginS S x 21 k = S 21 k := fun k => by simp [beginS]
  have e27 : ∀ k, k < 20 → beginS S x 27 k = -1 := fun k hk => by simp [beginS, hk]
  have e28 : ∀ k, k < 20 → beginS S x 28 k = -1 := fun k hk => by simp [beginS, hk]
  have e30 : ∀ k, k < 20 → beginS S x 30 k = -1 := fun k hk => by simp [beginS, hk]
  have e31 : ∀ k, k < 20 → beginS S x 31 k = -1 := fun k hk => by simp [beginS, hk]
  have e33 : ∀ k, beginS S x 33 k = S 33 k := fun k => by simp [beginS]
  have e34 : ∀ k, beginS S x 34 k = S 34 k := fun k => by simp [beginS]
  have e35 : ∀ k, beginS S x 35 k = S 35 k := fun k => by simp [beginS]
  have e36 : ∀ k, beginS S x 36 k = S 36 k := fun k => by simp [beginS]
  have f1 : beginF F 1 0 = FP.fconst0 := by simp [beginF]
  have f2 : beginF F 2 0 = 0x41200000 := by simp [beginF]
  have f3 : beginF F 3 0 = FP.fconst0 := by simp [beginF]
  have f7 : ∀ m, m < 5 → beginF F 7 m = FP.fconst0 := fun m hm => by simp [beginF, hm]
  have f8 : ∀ m, m < 5 → beginF F 8 m = FP.fconst1 := fun m hm => by simp [beginF, hm]
  have f22 : ∀ k, beginF F 22 k = F 22 k := fun k => by simp [beginF]
  have hn5 : n ≤ 5 := by omega
  have lg0 : ∀ i, i < 5 → lgS (beginS S x) i = [] := fun i hi => by
    unfold lgS
    rw [e12 i hi]
    rfl
  have tm0 : ∀ i, i < 5 → tmS (beginS S x) i = 0 := fun i hi => by
    unfold tmS
    rw [e9 i hi]
    rfl
  have bl0 : ∀ d a, d < 4 → a < 5 → blS (beginS S x) d a = -1 := fun d a hd ha => by
    unfold blS
    rw [e27 _ (by omega)]
    decide
  have yd0 : yD g0 [] := fun i e w => by cases w
  refine ⟨⟨e0.trans hn1, hn2, e47, 0, e4, by omega⟩, fun m hm => ⟨⟨0, e12 m hm, by omega, 0, e13 m hm, by omega⟩, ⟨0, e9 m hm, by omega⟩, Or.inr (e5 m hm), Or.inl (e11 m hm), Or.inl (e23 m hm), fun w => absurd ((e23 m hm).symm.trans w) (by decide), ⟨0, e18 m hm, by omega⟩⟩, fun k hk => ⟨Or.inl (e6 k hk), by rw [e21]; exact hb.1 k hk⟩, ⟨?_, ?_, ?_, ?_, ?_, ?_⟩, fun d hd => ⟨⟨fun a b w => w.elim, fun b v w => (by cases w), fun b v b' v' w => (by cases w)⟩, fun a ha => ?_, fun a ha => Or.inl ⟨e28 _ (by omega), fun b w => w.elim⟩, fun b v w => (by cases w), fun m hm w => absurd (e31 _ (by omega)) w, fun m hm w => absurd (e30 _ (by omega)) w⟩, fun k hk => ?_, fun t e he => ?_, ⟨⟨by omega, fun a ha => absurd ha (by omega), fun a ha => absurd ha (by omega), fun a b _ hb => absurd hb (by omega), fun a ha => absurd ha (by omega), fun a ha => absurd ha (by omega)⟩, fun a ha => absurd ha (by omega), fun a ha => absurd ha (by omega)⟩, ⟨0, e39, by omega, fun p hp => absurd hp (by omega)⟩, ⟨?_, ?_, ?_, fun m hm => ⟨?_, ?_⟩, fun k hk w => ?_, fun m hm w => ?_⟩⟩
  · refine ⟨⟨fun a ha => by rw [lg0 a (by omega)]; exact yd0, fun t => yd0, fun c t w => (by cases w)⟩, ⟨fun a e ha he => ?_, fun t e he => (by cases he), fun c t e w => (by cases w)⟩, fun t c w => (by cases w), fun a t c w => (by cases w), fun t c w => (by cases w), ⟨fun t c w => (by cases w), fun a t => Nat.le_refl _, fun t _ => rfl, fun a t w => absurd w (Nat.lt_irrefl 0)⟩, fun a t k ha hk hK => ?_, fun a t' c t k w => (by cases w), fun t t' k _ w => ?_⟩
    · rw [lg0 a (by omega)] at he
      cases he
    · obtain ⟨e, _, he, _⟩ := hK
      cases he
    · obtain ⟨c, w⟩ := w
      cases w
  · exact fun i hi => Or.inl ⟨e10 i (by omega), rfl⟩
  · exact fun i hi w => absurd ((e11 i (by omega)).symm.trans w) (by decide)
  · exact fun i hi w => absurd ((e11 i (by omega)).symm.trans w) (by decide)
  · exact fun i hi => Or.inl (by rw [e13 i (by omega)]; rfl)
  · exact ⟨fun t e he => (by cases he), fun t => Nat.zero_le _, fun a t c w => (by cases w)⟩
  · rw [bl0 d a hd (by omega)]
    omega
  · obtain ⟨c1, c2, c3, c4⟩ := hb.2.1 k hk
    rw [e33, e34, e35, e36]
    exact ⟨c1, c2, c3, c4⟩
  · cases he
  · rw [f1]; exact fpF_c0
  · rw [f2]; exact PQ_10
  · rw [f3]; exact PQ_1m0
  · rw [f7 m hm]; exact fpF_c0
  · rw [f8 m hm]; exact PQ_c1
  · rw [f22]
    rw [e21] at w
    exact hb.2.2 k hk w
  · exact absurd ((e23 m hm).symm.trans w) (by decide)
end BGI
