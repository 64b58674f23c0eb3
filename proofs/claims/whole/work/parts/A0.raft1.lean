/-! ===== leaders and logs: what can never be, said of ghosts ===== -/
abbrev YE : Type := Int32 × Int32 × Int32 × Int32
def yT (e : YE) : Nat := nt e.1
/-- ghosts: the leader of a term; its log; yup to where a machine has answered yes in a term; the log of one that stands; the vote of a machine in a term -/
abbrev YG : Type := (Nat → Option Nat) × (Nat → List YE) × (Nat → Nat → Nat) × (Nat → Nat → List YE) × (Nat → Nat → Option Nat)
abbrev yW (g : YG) : Nat → Option Nat := g.1
abbrev yL (g : YG) : Nat → List YE := g.2.1
abbrev yA (g : YG) : Nat → Nat → Nat := g.2.2.1
abbrev yC (g : YG) : Nat → Nat → List YE := g.2.2.2.1
abbrev yV (g : YG) : Nat → Nat → Option Nat := g.2.2.2.2
def yup {α : Type} (f : Nat → α) (a : Nat) (v : α) : Nat → α := fun x => if x = a then v else f x
theorem yup_eq {α : Type} {f : Nat → α} {a : Nat} {v : α} : yup f a v a = v := if_pos rfl
theorem yup_ne {α : Type} {f : Nat → α} {a b : Nat} {v : α} (h : b ≠ a) : yup f a v b = f b := if_neg h
def ycnt (q : Nat → Bool) : Nat → Nat
  | 0 => 0
  | j + 1 => ycnt q j + (if q j = true then 1 else 0)
theorem ycnt_s {q : Nat → Bool} {j : Nat} : ycnt q (j + 1) = ycnt q j + (if q j = true then 1 else 0) := rfl
def ymaj (n : Nat) (q : Nat → Bool) : Prop := n < 2 * ycnt q n
theorem ycnt_both (q r : Nat → Bool) : ∀ n, ycnt q n + ycnt r n ≤ n + ycnt (fun a => q a && r a) n := by
  intro n
  induction n with
  | zero => exact Nat.le_refl _
  | succ n ih =>
    rw [ycnt_s, ycnt_s, ycnt_s]
    cases q n <;> cases r n <;> simp <;> omega
theorem ycnt_some {q : Nat → Bool} : ∀ {n : Nat}, 0 < ycnt q n → ∃ a, a < n ∧ q a = true := by
  intro n
  induction n with
  | zero => intro h; exact absurd h (Nat.lt_irrefl _)
  | succ n ih =>
    intro h
    rw [ycnt_s] at h
    by_cases c : q n = true
    · exact ⟨n, by omega, c⟩
    · rw [if_neg c] at h
      obtain ⟨a, h1, h2⟩ := ih (by omega)
      exact ⟨a, by omega, h2⟩
theorem ymaj_both {n : Nat} {q r : Nat → Bool} (hq : ymaj n q) (hr : ymaj n r) : ∃ a, a < n ∧ q a = true ∧ r a = true := by
  have := ycnt_both q r n
  unfold ymaj at hq hr
  obtain ⟨a, h1, h2⟩ := ycnt_some (q := fun a => q a && r a) (n := n) (by omega)
  have h3 : (q a && r a) = true := h2
  rw [Bool.and_eq_true] at h3
  exact ⟨a, h1, h3.1, h3.2⟩
/-- entry k of the log of the leader of t is of term t -/
def yK (g : YG) (t k : Nat) : Prop := ∃ e, 1 ≤ k ∧ (yL g t)[k - 1]? = some e ∧ yT e = t
theorem yK.le {g : YG} {t k : Nat} (h : yK g t k) : 1 ≤ k ∧ k ≤ (yL g t).length := by
  obtain ⟨e, h1, h2, _⟩ := h
  have := (List.getElem?_eq_some_iff.mp h2).1
  omega
/-- most will never answer yes in t yup to k -/
def yB (n : Nat) (tm : Nat → Nat) (g : YG) (t k : Nat) : Prop := ∃ q, ymaj n q ∧ ∀ a, a < n → q a = true → t < tm a ∧ yA g a t < k
/-- most have answered yes in t yup to k -/
def yH (n : Nat) (g : YG) (t k : Nat) : Prop := yK g t k ∧ ∃ q, ymaj n q ∧ ∀ a, a < n → q a = true → k ≤ yA g a t
theorem yH.not_blk {n : Nat} {tm : Nat → Nat} {g : YG} {t k : Nat} (h : yH n g t k) : ¬ yB n tm g t k := by
  rintro ⟨q, h1, h2⟩
  obtain ⟨_, r, h3, h4⟩ := h
  obtain ⟨a, ha, hq, hr⟩ := ymaj_both h1 h3
  have := h2 a ha hq
  have := h4 a ha hr
  omega
/-- each entry is as in the log of the leader of its term -/
def yD (g : YG) (L : List YE) : Prop := ∀ i e, L[i]? = some e → (∃ c, yW g (yT e) = some c) ∧ L.take (i + 1) = (yL g (yT e)).take (i + 1)
def yla (L : List YE) : Nat := match L.getLast? with
  | none => 0
  | some e => yT e
/-- time has gone on -/
def yX (tm tm' : Nat → Nat) (g g' : YG) : Prop := (∀ a, tm a ≤ tm' a) ∧ (∀ t, yL g t <+: yL g' t) ∧ (∀ a t, t < tm a → yA g' a t = yA g a t) ∧ (∀ a t, yA g a t ≤ yA g' a t) ∧ (∀ t c, yW g t = some c → yW g' t = some c) ∧ (∀ a t c, yV g a t = some c → yV g' a t = some c) ∧ (∀ c t, yV g c t = some c → yC g' c t = yC g c t)
def yI (n : Nat) (tm : Nat → Nat) (lg : Nat → List YE) (g : YG) : Prop :=
  ((∀ a, a < n → yD g (lg a)) ∧ (∀ t, yD g (yL g t)) ∧ (∀ c t, yV g c t = some c → yD g (yC g c t))) ∧
  ((∀ a e, a < n → e ∈ lg a → yT e ≤ tm a) ∧ (∀ t e, e ∈ yL g t → yT e ≤ t) ∧ (∀ c t e, yV g c t = some c → e ∈ yC g c t → yT e < t)) ∧
  (∀ t c, yW g t = some c → c < n ∧ t ≤ tm c ∧ yV g c t = some c ∧ ∃ q, ymaj n q ∧ ∀ a, a < n → q a = true → yV g a t = some c) ∧
  (∀ a t c, yV g a t = some c → a < n ∧ t ≤ tm a ∧ c < n ∧ yV g c t = some c) ∧
  (∀ t c, yW g t = some c → tm c = t → lg c = yL g t) ∧
  ((∀ t c, yW g t = some c → yA g c t = (yL g t).length) ∧ (∀ a t, yA g a t ≤ (yL g t).length) ∧ (∀ t, yW g t = none → yL g t = []) ∧ (∀ a t, 0 < yA g a t → a < n ∧ t ≤ tm a)) ∧
  (∀ a t k, a < n → k ≤ yA g a t → yK g t k → (yL g t).take k <+: lg a ∨ yB n tm g t k) ∧
  (∀ a t' c t k, yV g a t' = some c → t < t' → yK g t k → (yL g t).take k <+: yC g c t' ∨ yA g a t < k ∨ yB n tm g t k) ∧
  (∀ t t' k, t < t' → (∃ c, yW g t' = some c) → yK g t k → (yL g t).take k <+: yL g t' ∨ yB n tm g t k)
section RAFT
variable {n : Nat} {tm tm' : Nat → Nat} {lg : Nat → List YE} {g g' : YG}
theorem yX.refl : yX tm tm g g := ⟨fun _ => Nat.le_refl _, fun _ => List.prefix_refl _, fun _ _ _ => rfl, fun _ _ => Nat.le_refl _, fun _ _ h => h, fun _ _ _ h => h, fun _ _ _ => rfl⟩
theorem yX.trans {tm'' : Nat → Nat} {g'' : YG} (x : yX tm tm' g g') (y : yX tm' tm'' g' g'') : yX tm tm'' g g'' := by
  obtain ⟨x1, x2, x3, x4, x5, x6, x7⟩ := x
  obtain ⟨y1, y2, y3, y4, y5, y6, y7⟩ := y
  refine ⟨fun a => Nat.le_trans (x1 a) (y1 a), fun t => (x2 t).trans (y2 t), fun a t h => ?_, fun a t => Nat.le_trans (x4 a t) (y4 a t), fun t c h => y5 t c (x5 t c h), fun a t c h => y6 a t c (x6 a t c h), fun c t h => ?_⟩
  · rw [y3 a t (Nat.lt_of_lt_of_le h (x1 a)), x3 a t h]
  · rw [y7 c t (x6 c t c h), x7 c t h]
theorem ypre_take {L L' : List YE} (h : L <+: L') {k : Nat} (hk : k ≤ L.length) : L'.take k = L.take k := by
  obtain ⟨M, rfl⟩ := h
  exact List.take_append_of_le_length hk
theorem ypre_get {L L' : List YE} (h : L <+: L') {i : Nat} {e : YE} (hi : L[i]? = some e) : L'[i]? = some e := by
  obtain ⟨M, rfl⟩ := h
  have := (List.getElem?_eq_some_iff.mp hi).1
  rw [List.getElem?_append_left this]
  exact hi
theorem yK.mono (x : yX tm tm' g g') {t k : Nat} (h : yK g t k) : yK g' t k := by
  obtain ⟨e, h1, h2, h3⟩ := h
  exact ⟨e, h1, ypre_get (x.2.1 t) h2, h3⟩
theorem yK.back (x : yX tm tm' g g') {t k : Nat} (h : yK g' t k) (hk : k ≤ (yL g t).length) : yK g t k := by
  obtain ⟨e, h1, h2, h3⟩ := h
  obtain ⟨M, hM⟩ := x.2.1 t
  rw [← hM, List.getElem?_append_left (by omega)] at h2
  exact ⟨e, h1, h2, h3⟩
theorem yB.mono (x : yX tm tm' g g') {t k : Nat} (h : yB n tm g t k) : yB n tm' g' t k := by
  obtain ⟨q, h1, h2⟩ := h
  refine ⟨q, h1, fun a ha hq => ?_⟩
  obtain ⟨h3, h4⟩ := h2 a ha hq
  refine ⟨Nat.lt_of_lt_of_le h3 (x.1 a), ?_⟩
  rw [x.2.2.1 a t h3]
  exact h4
theorem yH.mono (x : yX tm tm' g g') {t k : Nat} (h : yH n g t k) : yH n g' t k := by
  obtain ⟨h1, q, h2, h3⟩ := h
  exact ⟨h1.mono x, q, h2, fun a ha hq => Nat.le_trans (h3 a ha hq) (x.2.2.2.1 a t)⟩
theorem yD.mono (x : yX tm tm' g g') {L : List YE} (h : yD g L) : yD g' L := by
  intro i e hi
  obtain ⟨⟨c, h1⟩, h2⟩ := h i e hi
  refine ⟨⟨c, x.2.2.2.2.1 _ c h1⟩, ?_⟩
  have hl := (List.getElem?_eq_some_iff.mp hi).1
  have h3 : i + 1 ≤ (yL g (yT e)).length := by
    have := congrArg List.length h2
    rw [List.length_take, List.length_take] at this
    omega
  rw [ypre_take (x.2.1 (yT e)) h3]
  exact h2
theorem yD.take {L : List YE} (h : yD g L) (k : Nat) : yD g (L.take k) := by
  intro i e hi
  rw [List.getElem?_take] at hi
  split at hi
  · rename_i c
    obtain ⟨h1, h2⟩ := h i e hi
    refine ⟨h1, ?_⟩
    rw [List.take_take, Nat.min_eq_left (by omega)]
    exact h2
  · exact absurd hi (by simp)
/-- terms do not fall in a good log -/
theorem yD.terms {L : List YE} (h : yD g L) (hg : ∀ t e, e ∈ yL g t → yT e ≤ t) {i j : Nat} {e f : YE} (hij : i ≤ j) (hi : L[i]? = some e) (hj : L[j]? = some f) : yT e ≤ yT f := by
  obtain ⟨_, h2⟩ := h j f hj
  have : (L.take (j + 1))[i]? = some e := by
    rw [List.getElem?_take, if_pos (by omega)]
    exact hi
  rw [h2] at this
  have m := List.mem_of_getElem? this
  exact hg _ _ (List.mem_of_mem_take m)
theorem yla_some {L : List YE} {e : YE} (h : L[L.length - 1]? = some e) : yla L = yT e := by
  unfold yla
  rw [List.getLast?_eq_getElem?, h]
theorem ylast_ex {L : List YE} (h : L ≠ []) : ∃ e, L[L.length - 1]? = some e := by
  have : 0 < L.length := List.length_pos_iff.mpr h
  exact ⟨L[L.length - 1], List.getElem?_eq_getElem (by omega)⟩
/-- a good log is the beginning of the log of the leader of its last term -/
theorem yD.whole {L : List YE} (h : yD g L) {e : YE} (he : L[L.length - 1]? = some e) : (∃ c, yW g (yT e) = some c) ∧ L = (yL g (yT e)).take L.length := by
  obtain ⟨h1, h2⟩ := h _ e he
  have hl := (List.getElem?_eq_some_iff.mp he).1
  have e1 : L.length - 1 + 1 = L.length := by omega
  rw [e1, List.take_length] at h2
  exact ⟨h1, h2⟩
theorem ytake_pre {L : List YE} {j k : Nat} (h : j ≤ k) : L.take j <+: L.take k := by
  have : L.take j = (L.take k).take j := by rw [List.take_take, Nat.min_eq_left h]
  rw [this]
  exact List.take_prefix _ _
/-- what is chosen is in the log of each later leader -/
theorem yI.later (H : yI n tm lg g) {t t' k : Nat} {c : Nat} (hc : yH n g t k) (ht : t ≤ t') (hw : yW g t' = some c) : (yL g t).take k <+: yL g t' := by
  by_cases q : t = t'
  · subst q; exact List.take_prefix _ _
  · rcases H.2.2.2.2.2.2.2.2 t t' k (by omega) ⟨c, hw⟩ hc.1 with h | h
    · exact h
    · exact absurd h hc.not_blk
end RAFT
