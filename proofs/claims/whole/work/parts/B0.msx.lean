/-! ===== the row of messages, each as a predicate says ===== -/
def CGp (f : RW → UInt32 → Prop) : Prop := ∀ w w' c, (∀ j, j < 24 → w j = w' j) → f w c → f w' c
def MSX (f : RW → UInt32 → Prop) (S : SI) (F : SF) : Prop := ∃ q, S 39 0 = Int32.ofNat q ∧ q ≤ 60 ∧ ∀ p, p < q → f (fun j => S 37 (24 * p + j)) (F 38 p)
section MSXS
variable {f f' : RW → UInt32 → Prop} {S : SI} {F : SF}
theorem MSX.mono (h : MSX f S F) (k : ∀ w c, f w c → f' w c) : MSX f' S F := by
  obtain ⟨q, h1, h2, h3⟩ := h
  exact ⟨q, h1, h2, fun p hp => k _ _ (h3 p hp)⟩
/-- the same row -/
theorem MSX.same {S' : SI} {F' : SF} (h : MSX f S F) (h39 : S' 39 0 = S 39 0) (h37 : S' 37 = S 37) (h38 : F' 38 = F 38) : MSX f S' F' := by
  obtain ⟨q, h1, h2, h3⟩ := h
  refine ⟨q, h39.trans h1, h2, fun p hp => ?_⟩
  rw [h37, h38]
  exact h3 p hp
theorem MSX.push (cg : CGp f) (h : MSX f S F) {w : RW} {c : UInt32} (hw : f w c) : MSX f (pushS S w) (pushF S F c) := by
  obtain ⟨q, h1, h2, h3⟩ := h
  have en : nt (S 39 0) = q := nt_of h1 (by omega)
  by_cases c6 : q < 60
  · refine ⟨q + 1, ?_, by omega, fun p hp => ?_⟩
    · rw [push_39, en, if_pos c6, h1, o_addn]
    · by_cases z : p = q
      · subst z
        have e38 : pushF S F c 38 p = c := if_pos ⟨rfl, by rw [en]; exact c6, en.symm⟩
        rw [e38]
        refine cg w _ c (fun j hj => ?_) hw
        have := push_new (S := S) (w := w) (j := j) (by rw [en]; exact c6) hj
        rw [en] at this
        exact this.symm
      · have e38 : pushF S F c 38 p = F 38 p := if_neg (fun y => z (y.2.2.trans en))
        rw [e38]
        refine cg _ _ _ (fun j hj => ?_) (h3 p (by omega))
        exact (push_old (S := S) (w := w) (p := p) (by rw [en]; omega) hj).symm
  · refine ⟨q, ?_, h2, fun p hp => ?_⟩
    · rw [push_39, en, if_neg c6, h1]
    · have e38 : pushF S F c 38 p = F 38 p := if_neg (fun y => by have := y.2.1; omega)
      rw [e38]
      refine cg _ _ _ (fun j hj => ?_) (h3 p hp)
      exact (push_old (S := S) (w := w) (p := p) (by rw [en]; omega) hj).symm
theorem MSX.snd (cg : CGp f) {P : PT} (h : MSX f P.1 P.2) {w : RW} {c : UInt32} (hw : f w c) : MSX f (snd P w c).1 (snd P w c).2 := by
  have h' : MSX f (sentS P.1) P.2 := h.same rfl rfl rfl
  exact h'.push cg hw
theorem MSX.all (cg : CGp f) {P : PT} (h : MSX f P.1 P.2) {g : Nat → RW} {c : UInt32} {m : Nat} : ∀ n, (∀ j, j < n → j ≠ m → f (g j) c) → MSX f (toAll g c m n P).1 (toAll g c m n P).2 := by
  intro n
  induction n with
  | zero => intro _; exact h
  | succ n ih =>
    intro hg
    have i := ih (fun j hj hm => hg j (by omega) hm)
    unfold toAll
    split
    · exact i
    · rename_i z
      exact i.snd cg (hg n (by omega) z)
theorem MSX.leave (cg : CGp f) {p q : Nat} (h : MSX f S F) (hq : S 39 0 = Int32.ofNat q) (hq60 : q ≤ 60) (hp : p < q) : MSX f (leaveS S p) (leaveF S F p) := by
  obtain ⟨q', h1, h2, h3⟩ := h
  have eq' : nt (S 39 0) = q' := nt_of h1 (by omega)
  have hq6 : q < 2147483648 := by omega
  have en : nt (S 39 0) = q := nt_of hq hq6
  have : q = q' := by omega
  subst this
  refine ⟨q - 1, ?_, by omega, fun p' hp' => ?_⟩
  · have e : leaveS S p 39 0 = S 39 0 - 1 := by
      unfold leaveS
      rw [if_neg (fun y => absurd y.1 (by decide)), if_pos ⟨rfl, rfl⟩]
    rw [e, h1, o_sub1 _ (by omega)]
  · by_cases z : p ≤ p'
    · have e38 : leaveF S F p 38 p' = F 38 (p' + 1) := by
        unfold leaveF
        rw [en]
        exact if_pos ⟨rfl, z, by omega⟩
      rw [e38]
      refine cg _ _ _ (fun j hj => ?_) (h3 (p' + 1) (by omega))
      show S 37 (24 * (p' + 1) + j) = leaveS S p 37 (24 * p' + j)
      unfold leaveS
      rw [en, if_pos ⟨rfl, by omega, by omega⟩]
      congr 1
      omega
    · have e38 : leaveF S F p 38 p' = F 38 p' := by
        unfold leaveF
        exact if_neg (fun y => z y.2.1)
      rw [e38]
      refine cg _ _ _ (fun j hj => ?_) (h3 p' (by omega))
      show S 37 (24 * p' + j) = leaveS S p 37 (24 * p' + j)
      unfold leaveS
      rw [if_neg (fun y => by have := y.2.1; omega), if_neg (fun y => absurd y.1 (by decide))]
end MSXS
