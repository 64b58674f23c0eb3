/-! ===== single decisions: what can never be, said of ghosts ===== -/
abbrev ZA : Type := Nat → Nat → Prop
abbrev ZV : Type := Nat → Option Int32
/-- most have promised more than b, and have not accepted it -/
def zB (n : Nat) (bl : Nat → Int) (ac : ZA) (b : Nat) : Prop := ∃ q, ymaj n q ∧ ∀ a, a < n → q a = true → (b : Int) < bl a ∧ ¬ ac a b
/-- most have accepted b -/
def zH (n : Nat) (ac : ZA) (b : Nat) : Prop := ∃ q, ymaj n q ∧ ∀ a, a < n → q a = true → ac a b
def zI (n : Nat) (bl : Nat → Int) (ac : ZA) (pv : ZV) : Prop := (∀ a b, ac a b → a < n ∧ (b : Int) ≤ bl a ∧ ∃ v, pv b = some v) ∧ (∀ b v, pv b = some v → (b : Int) ≤ bl (b % 8) ∧ ∃ q, ymaj n q ∧ ∀ a, a < n → q a = true → (b : Int) ≤ bl a) ∧ (∀ b v b' v', pv b = some v → pv b' = some v' → b' < b → v' = v ∨ zB n bl ac b')
def zX (bl bl' : Nat → Int) (ac ac' : ZA) (pv pv' : ZV) : Prop := (∀ a, bl a ≤ bl' a) ∧ (∀ a b, ac a b → ac' a b) ∧ (∀ a b, ac' a b → ac a b ∨ bl a ≤ b) ∧ (∀ b v, pv b = some v → pv' b = some v)
section PAX
variable {n : Nat} {bl bl' : Nat → Int} {ac ac' : ZA} {pv pv' : ZV}
theorem zX.refl : zX bl bl ac ac pv pv := ⟨fun _ => Int.le_refl _, fun _ _ h => h, fun _ _ h => Or.inl h, fun _ _ h => h⟩
theorem zX.trans {bl'' : Nat → Int} {ac'' : ZA} {pv'' : ZV} (x : zX bl bl' ac ac' pv pv') (y : zX bl' bl'' ac' ac'' pv' pv'') : zX bl bl'' ac ac'' pv pv'' := by
  obtain ⟨x1, x2, x3, x4⟩ := x
  obtain ⟨y1, y2, y3, y4⟩ := y
  refine ⟨fun a => Int.le_trans (x1 a) (y1 a), fun a b h => y2 a b (x2 a b h), fun a b h => ?_, fun b v h => y4 b v (x4 b v h)⟩
  rcases y3 a b h with h | h
  · exact x3 a b h
  · exact Or.inr (Int.le_trans (x1 a) h)
theorem zB.mono (x : zX bl bl' ac ac' pv pv') {b : Nat} (h : zB n bl ac b) : zB n bl' ac' b := by
  obtain ⟨q, h1, h2⟩ := h
  refine ⟨q, h1, fun a ha hq => ?_⟩
  obtain ⟨h3, h4⟩ := h2 a ha hq
  have := x.1 a
  refine ⟨by omega, fun h5 => ?_⟩
  rcases x.2.2.1 a b h5 with h6 | h6
  · exact h4 h6
  · omega
theorem zH.mono (x : zX bl bl' ac ac' pv pv') {b : Nat} (h : zH n ac b) : zH n ac' b := by
  obtain ⟨q, h1, h2⟩ := h
  exact ⟨q, h1, fun a ha hq => x.2.1 a b (h2 a ha hq)⟩
theorem zH.not_blk {b : Nat} (h : zH n ac b) : ¬ zB n bl ac b := by
  rintro ⟨q, h1, h2⟩
  obtain ⟨r, h3, h4⟩ := h
  obtain ⟨a, ha, hq, hr⟩ := ymaj_both h1 h3
  exact (h2 a ha hq).2 (h4 a ha hr)
/-- what is decided is decided once -/
theorem zI.one (H : zI n bl ac pv) {b b' : Nat} {v v' : Int32} (h : zH n ac b) (h' : zH n ac b') (hv : pv b = some v) (hv' : pv b' = some v') : v = v' := by
  by_cases c : b = b'
  · subst c
    rw [hv] at hv'
    exact Option.some.inj hv'
  · by_cases c2 : b' < b
    · rcases H.2.2 b v b' v' hv hv' c2 with q | q
      · exact q.symm
      · exact absurd q h'.not_blk
    · rcases H.2.2 b' v' b v hv' hv (by omega) with q | q
      · exact q
      · exact absurd q h.not_blk
theorem zX_raise {a : Nat} {x : Int} (h : bl a ≤ x) : zX bl (yup bl a x) ac ac pv pv := by
  refine ⟨fun b => ?_, fun _ _ h => h, fun _ _ h => Or.inl h, fun _ _ h => h⟩
  by_cases c : b = a
  · subst c; rw [yup_eq]; exact h
  · rw [yup_ne c]; exact Int.le_refl _
theorem zI_mono1 (H : zI n bl ac pv) (x : zX bl bl' ac ac pv pv) : zI n bl' ac pv := by
  obtain ⟨h1, h2, h3⟩ := H
  refine ⟨fun a b h => ?_, fun b v h => ?_, fun b v b' v' h h' hl => ?_⟩
  · obtain ⟨q1, q2, q3⟩ := h1 a b h
    exact ⟨q1, Int.le_trans q2 (x.1 a), q3⟩
  · obtain ⟨q1, q, q2, q3⟩ := h2 b v h
    exact ⟨Int.le_trans q1 (x.1 _), q, q2, fun a ha hq => Int.le_trans (q3 a ha hq) (x.1 a)⟩
  · exact (h3 b v b' v' h h' hl).imp id (fun z => z.mono x)
theorem zI_raise (H : zI n bl ac pv) {a : Nat} {x : Int} (h : bl a ≤ x) : zI n (yup bl a x) ac pv := zI_mono1 H (zX_raise h)
/-- one more has accepted -/
def zAcc (ac : ZA) (a b : Nat) : ZA := fun x y => ac x y ∨ (x = a ∧ y = b)
theorem zX_accept {a b : Nat} (h : bl a ≤ b) : zX bl (yup bl a b) ac (zAcc ac a b) pv pv := by
  refine ⟨(zX_raise (ac := ac) (pv := pv) h).1, fun _ _ h => Or.inl h, fun x y h' => ?_, fun _ _ h => h⟩
  rcases h' with h' | ⟨rfl, rfl⟩
  · exact Or.inl h'
  · exact Or.inr h
theorem zI_accept (H : zI n bl ac pv) {a b : Nat} {v : Int32} (ha : a < n) (hv : pv b = some v) (h : bl a ≤ b) : zI n (yup bl a b) (zAcc ac a b) pv := by
  have x := zX_accept (ac := ac) (pv := pv) h
  obtain ⟨h1, h2, h3⟩ := H
  refine ⟨fun c d hc => ?_, fun b v h => ?_, fun b v b' v' h h' hl => ?_⟩
  · rcases hc with hc | ⟨rfl, rfl⟩
    · obtain ⟨q1, q2, q3⟩ := h1 c d hc
      exact ⟨q1, Int.le_trans q2 (x.1 c), q3⟩
    · exact ⟨ha, by rw [yup_eq]; exact Int.le_refl _, v, hv⟩
  · obtain ⟨q1, q, q2, q3⟩ := h2 b v h
    exact ⟨Int.le_trans q1 (x.1 _), q, q2, fun a ha hq => Int.le_trans (q3 a ha hq) (x.1 a)⟩
  · exact (h3 b v b' v' h h' hl).imp id (fun z => z.mono x)
theorem zX_goon {m b : Nat} {v : Int32} (hb : bl m = b) (hn : pv b = none) : zX bl bl ac (zAcc ac m b) pv (yup pv b (some v)) := by
  refine ⟨fun _ => Int.le_refl _, fun _ _ h => Or.inl h, fun x y h' => ?_, fun c w h => ?_⟩
  · rcases h' with h' | ⟨rfl, rfl⟩
    · exact Or.inl h'
    · exact Or.inr (by omega)
  · by_cases z : c = b
    · subst z; rw [hn] at h; exact absurd h (by simp)
    · rw [yup_ne z]; exact h
theorem zI_goon (H : zI n bl ac pv) {m b : Nat} {v : Int32} {best : Int} {q : Nat → Bool} (hm : m < n) (hown : b % 8 = m) (hb : bl m = b) (hn : pv b = none) (hq : ymaj n q) (hqa : ∀ a, a < n → q a = true → (b : Int) ≤ bl a ∧ ∀ b', b' < b → best < b' → ¬ ac a b') (hbest : best = -1 ∨ ∃ x : Nat, best = x ∧ x < b ∧ pv x = some v) : zI n bl (zAcc ac m b) (yup pv b (some v)) := by
  have x := zX_goon (ac := ac) (v := v) hb hn
  obtain ⟨h1, h2, h3⟩ := H
  have none_ac : ∀ a, ¬ ac a b := by
    intro a h
    obtain ⟨_, _, w, hw⟩ := h1 a b h
    rw [hn] at hw; exact absurd hw (by simp)
  have PV : ∀ c w, yup pv b (some v) c = some w → (c = b ∧ w = v) ∨ (c ≠ b ∧ pv c = some w) := by
    intro c w h
    by_cases z : c = b
    · subst z; rw [yup_eq] at h; exact Or.inl ⟨rfl, (Option.some.inj h).symm⟩
    · rw [yup_ne z] at h; exact Or.inr ⟨z, h⟩
  refine ⟨fun c d hc => ?_, fun c w h => ?_, fun c w c' w' h h' hl => ?_⟩
  · rcases hc with hc | ⟨rfl, rfl⟩
    · obtain ⟨q1, q2, w, q3⟩ := h1 c d hc
      exact ⟨q1, q2, w, x.2.2.2 d w q3⟩
    · exact ⟨hm, by omega, v, yup_eq⟩
  · rcases PV c w h with ⟨rfl, rfl⟩ | ⟨_, h⟩
    · refine ⟨by rw [hown]; omega, q, hq, fun a ha hq => (hqa a ha hq).1⟩
    · exact h2 c w h
  · rcases PV c w h with ⟨rfl, rfl⟩ | ⟨z, k⟩
    · rcases PV c' w' h' with ⟨rfl, rfl⟩ | ⟨z', k'⟩
      · exact Or.inl rfl
      · by_cases y : best < c'
        · refine Or.inr ⟨q, hq, fun a ha hq => ?_⟩
          obtain ⟨q1, q2⟩ := hqa a ha hq
          refine ⟨by omega, fun w2 => ?_⟩
          rcases w2 with w2 | ⟨_, w2⟩
          · exact q2 c' hl y w2
          · exact z' w2
        · rcases hbest with hb1 | ⟨X, hb1, hb2, hb3⟩
          · omega
          · by_cases u : c' = X
            · subst u
              rw [k'] at hb3
              exact Or.inl (Option.some.inj hb3)
            · exact (h3 X _ c' w' hb3 k' (by omega)).imp id (fun z => z.mono x)
    · rcases PV c' w' h' with ⟨rfl, rfl⟩ | ⟨z', k'⟩
      · obtain ⟨_, r, r1, r2⟩ := h2 c w k
        refine Or.inr ⟨r, r1, fun a ha hr => ?_⟩
        have := r2 a ha hr
        refine ⟨by omega, fun w2 => ?_⟩
        rcases w2 with w2 | ⟨w2, _⟩
        · exact none_ac a w2
        · subst w2; omega
      · exact (h3 c w c' w' k k' hl).imp id (fun z => z.mono x)
end PAX
