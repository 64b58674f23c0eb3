/-! ===== leaders and logs: entries ===== -/
section RAFT3
variable {n : Nat} {tm : Nat → Nat} {lg : Nat → List YE} {g : YG}
/-- the leader puts an entry -/
def yPut (g : YG) (t c : Nat) (e : YE) : YG := (yW g, yup (yL g) t (yL g t ++ [e]), u2 (yA g) c t ((yL g t).length + 1), yC g, yV g)
theorem yX_put (H : yI n tm lg g) {t c : Nat} {e : YE} (hw : yW g t = some c) (ht : tm c = t) : yX tm tm g (yPut g t c e) := by
  refine ⟨fun _ => Nat.le_refl _, fun t1 => ?_, fun a t1 h => ?_, fun a t1 => ?_, fun t1 d h => h, fun _ _ _ h => h, fun _ _ _ => rfl⟩
  · show yL g t1 <+: yup (yL g) t (yL g t ++ [e]) t1
    by_cases z : t1 = t
    · subst z; rw [yup_eq]; exact List.prefix_append _ _
    · rw [yup_ne z]; exact List.prefix_refl _
  · by_cases z : a = c
    · subst z; exact u2_ne (by omega)
    · exact u2_ne (by omega)
  · show yA g a t1 ≤ u2 (yA g) c t ((yL g t).length + 1) a t1
    by_cases z : a = c ∧ t1 = t
    · obtain ⟨rfl, rfl⟩ := z
      rw [u2_eq]
      have := H.2.2.2.2.2.1.2.1 a t1
      omega
    · rw [u2_ne (by omega)]; exact Nat.le_refl _
theorem yI_put (H : yI n tm lg g) {c : Nat} {e : YE} (hw : yW g (tm c) = some c) (he : yT e = tm c) : yI n tm (yup lg c (lg c ++ [e])) (yPut g (tm c) c e) := by
  have x := yX_put (e := e) H hw rfl
  obtain ⟨⟨h1, h1', h1''⟩, ⟨h2, h2', h2''⟩, h3, h4, h5, ⟨h6, h6', h6'', h7⟩, h8, h9, h10⟩ := H
  have hc : c < n := (h3 _ _ hw).1
  have hlg : lg c = yL g (tm c) := h5 _ _ hw rfl
  have LL : ∀ t, t ≠ tm c → yL (yPut g (tm c) c e) t = yL g t := fun t z => yup_ne z
  have L0 : yL (yPut g (tm c) c e) (tm c) = yL g (tm c) ++ [e] := yup_eq
  have AA : ∀ a t, ¬ (a = c ∧ t = tm c) → yA (yPut g (tm c) c e) a t = yA g a t := by
    intro a t z
    by_cases w : a = c
    · subst w; exact u2_ne (by omega)
    · exact u2_ne (by omega)
  have A0 : yA (yPut g (tm c) c e) c (tm c) = (yL g (tm c)).length + 1 := u2_eq
  have KB : ∀ t k, yK (yPut g (tm c) c e) t k → yK g t k ∨ (t = tm c ∧ k = (yL g (tm c)).length + 1) := by
    intro t k hK
    by_cases z : t = tm c
    · subst z
      by_cases w : k ≤ (yL g (tm c)).length
      · exact Or.inl (hK.back x w)
      · have := hK.le.2
        rw [L0, List.length_append] at this
        have z1 : [e].length = 1 := rfl
        exact Or.inr ⟨rfl, by omega⟩
    · obtain ⟨f, e1, e2, e3⟩ := hK
      rw [LL t z] at e2
      exact Or.inl ⟨f, e1, e2, e3⟩
  have TK : ∀ t k, yK g t k → (yL (yPut g (tm c) c e) t).take k = (yL g t).take k := fun t k hK => ypre_take (x.2.1 t) hK.le.2
  have dG : ∀ t, yD (yPut g (tm c) c e) (yL (yPut g (tm c) c e) t) := by
    intro t
    by_cases z : t = tm c
    · subst z
      intro i f hi
      rw [L0] at hi ⊢
      by_cases w : i < (yL g (tm c)).length
      · rw [List.getElem?_append_left w] at hi
        obtain ⟨q1, q2⟩ := ((h1' (tm c)).mono x) i f hi
        refine ⟨q1, ?_⟩
        rw [List.take_append_of_le_length (by omega)]
        exact q2
      · rw [List.getElem?_append_right (by omega)] at hi
        have hi2 := (List.getElem?_eq_some_iff.mp hi).1
        have z1 : [e].length = 1 := rfl
        have i0 : i - (yL g (tm c)).length = 0 := by omega
        rw [i0] at hi
        have ef : e = f := by simpa using hi
        subst ef
        refine ⟨⟨c, ?_⟩, ?_⟩
        · rw [he]; exact hw
        · rw [he, L0]
    · rw [LL t z]; exact (h1' t).mono x
  refine ⟨⟨fun b hb => ?_, dG, fun b t h => (h1'' b t h).mono x⟩, ⟨fun b f hb hf => ?_, fun t f hf => ?_, h2''⟩, h3, h4, fun t1 d hd ht1 => ?_, ⟨fun t d hd => ?_, fun a t => ?_, fun t hn => ?_, fun a t ha => ?_⟩, fun b t1 k hb hk hK => ?_, fun b t' d t1 k hvv hlt hK => ?_, fun t1 t' k hlt hw' hK => ?_⟩
  · by_cases z : b = c
    · subst z
      rw [yup_eq, hlg]
      have := dG (tm b)
      rw [L0] at this
      exact this
    · rw [yup_ne z]; exact (h1 b hb).mono x
  · by_cases z : b = c
    · subst z
      rw [yup_eq, List.mem_append] at hf
      rcases hf with hf | hf
      · exact h2 b f hb hf
      · have : f = e := by simpa using hf
        subst this
        omega
    · rw [yup_ne z] at hf; exact h2 b f hb hf
  · by_cases z : t = tm c
    · subst z
      rw [L0, List.mem_append] at hf
      rcases hf with hf | hf
      · exact h2' _ f hf
      · have : f = e := by simpa using hf
        subst this
        omega
    · rw [LL t z] at hf; exact h2' t f hf
  · by_cases z : d = c
    · subst z
      rw [yup_eq, ← ht1, L0, hlg]
    · rw [yup_ne z]
      have z' : t1 ≠ tm c := by
        intro w
        subst w
        have hd' : yW g (tm c) = some d := hd
        rw [hw] at hd'
        exact z (Option.some.inj hd').symm
      rw [LL t1 z']
      exact h5 t1 d hd ht1
  · have hd' : yW g t = some d := hd
    by_cases z : d = c ∧ t = tm c
    · obtain ⟨rfl, rfl⟩ := z
      rw [A0, L0, List.length_append]
      rfl
    · rw [AA d t z]
      have z' : t ≠ tm c := by
        intro w
        subst w
        rw [hw] at hd'
        exact z ⟨(Option.some.inj hd').symm, rfl⟩
      rw [LL t z']
      exact h6 t d hd'
  · by_cases z : a = c ∧ t = tm c
    · obtain ⟨rfl, rfl⟩ := z
      rw [A0, L0, List.length_append]
      exact Nat.le_refl _
    · rw [AA a t z]
      exact Nat.le_trans (h6' a t) (x.2.1 t).length_le
  · by_cases z : t = tm c
    · subst z
      have hn' : yW g (tm c) = none := hn
      rw [hw] at hn'; exact absurd hn' (by simp)
    · rw [LL t z]; exact h6'' t hn
  · by_cases z : a = c ∧ t = tm c
    · rw [z.1, z.2]; exact ⟨hc, Nat.le_refl _⟩
    · rw [AA a t z] at ha; exact h7 a t ha
  · rcases KB t1 k hK with hK' | ⟨rfl, rfl⟩
    · rw [TK t1 k hK']
      have hle := hK'.le.2
      have hk' : k ≤ yA g b t1 := by
        by_cases z : b = c ∧ t1 = tm c
        · obtain ⟨rfl, rfl⟩ := z
          rw [h6 _ _ hw]; exact hle
        · rw [AA b t1 z] at hk; exact hk
      rcases h8 b t1 k hb hk' hK' with w | w
      · refine Or.inl ?_
        by_cases z : b = c
        · subst z; rw [yup_eq]; exact w.trans (List.prefix_append _ _)
        · rw [yup_ne z]; exact w
      · exact Or.inr (w.mono x)
    · by_cases z : b = c
      · subst z
        refine Or.inl ?_
        rw [L0, yup_eq, hlg]
        exact List.take_prefix _ _
      · rw [AA b _ (fun w => z w.1)] at hk
        have := h6' b (tm c)
        omega
  · rcases KB t1 k hK with hK' | ⟨rfl, rfl⟩
    · rw [TK t1 k hK']
      have hle := hK'.le.2
      rcases h9 b t' d t1 k hvv hlt hK' with w | w | w
      · exact Or.inl w
      · refine Or.inr (Or.inl ?_)
        by_cases z : b = c ∧ t1 = tm c
        · obtain ⟨rfl, rfl⟩ := z
          have := (h4 b t' d hvv).2.1
          omega
        · rw [AA b t1 z]; exact w
      · exact Or.inr (Or.inr (w.mono x))
    · refine Or.inr (Or.inl ?_)
      by_cases z : b = c
      · subst z
        have := (h4 b t' d hvv).2.1
        omega
      · rw [AA b _ (fun w => z w.1)]
        have := h6' b (tm c)
        omega
  · rcases KB t1 k hK with hK' | ⟨rfl, rfl⟩
    · rw [TK t1 k hK']
      rcases h10 t1 t' k hlt hw' hK' with w | w
      · exact Or.inl (w.trans (x.2.1 t'))
      · exact Or.inr (w.mono x)
    · refine Or.inr ?_
      obtain ⟨d, hd⟩ := hw'
      obtain ⟨_, _, _, q, q4, q5⟩ := h3 t' d hd
      refine ⟨q, q4, fun a ha hqa => ?_⟩
      have hta := (h4 a t' d (q5 a ha hqa)).2.1
      refine ⟨by omega, ?_⟩
      have z : ¬ a = c := by intro z; subst z; omega
      rw [AA a _ (fun w => z w.1)]
      have := h6' a (tm c)
      omega
/-- a machine takes what the leader sent, up to entry l, and answers yes -/
def yTake (g : YG) (a t l : Nat) : YG := (yW g, yL g, u2 (yA g) a t (max (yA g a t) l), yC g, yV g)
theorem yX_take {a t l : Nat} (ht : tm a = t) : yX tm tm g (yTake g a t l) := by
  refine ⟨fun _ => Nat.le_refl _, fun t1 => List.prefix_refl _, fun b t1 h => ?_, fun b t1 => ?_, fun t1 d h => h, fun _ _ _ h => h, fun _ _ _ => rfl⟩
  · by_cases z : b = a
    · subst z; exact u2_ne (by omega)
    · exact u2_ne (by omega)
  · show yA g b t1 ≤ u2 (yA g) a t (max (yA g a t) l) b t1
    by_cases z : b = a ∧ t1 = t
    · obtain ⟨rfl, rfl⟩ := z
      rw [u2_eq]
      omega
    · rw [u2_ne (by omega)]; exact Nat.le_refl _
/-- how the log of one that takes becomes -/
def yNew (g : YG) (t l : Nat) (L L' : List YE) : Prop := (L' = L ∧ (yL g t).take l <+: L) ∨ (L' = (yL g t).take l ∧ ∀ j, j ≤ (yL g t).length → (yL g t).take j <+: L → j ≤ l)
theorem yNew.keep {t l j : Nat} {L L' : List YE} (h : yNew g t l L L') (hj : j ≤ (yL g t).length) (hp : (yL g t).take j <+: L) : (yL g t).take j <+: L' := by
  rcases h with ⟨h1, _⟩ | ⟨h1, h2⟩
  · rw [h1]; exact hp
  · rw [h1]; exact ytake_pre (h2 j hj hp)
theorem yNew.has {t l : Nat} {L L' : List YE} (h : yNew g t l L L') : (yL g t).take l <+: L' := by
  rcases h with ⟨h1, h2⟩ | ⟨h1, _⟩
  · rw [h1]; exact h2
  · rw [h1]; exact List.prefix_refl _
theorem yI_take (H : yI n tm lg g) {a c l : Nat} {L' : List YE} (ha : a < n) (hw : yW g (tm a) = some c) (hac : a ≠ c) (hl : l ≤ (yL g (tm a)).length) (hN : yNew g (tm a) l (lg a) L') : yI n tm (yup lg a L') (yTake g a (tm a) l) := by
  have x := yX_take (g := g) (l := l) (tm := tm) (a := a) rfl
  obtain ⟨⟨h1, h1', h1''⟩, ⟨h2, h2', h2''⟩, h3, h4, h5, ⟨h6, h6', h6'', h7⟩, h8, h9, h10⟩ := H
  have AA : ∀ b t, ¬ (b = a ∧ t = tm a) → yA (yTake g a (tm a) l) b t = yA g b t := by
    intro b t z
    by_cases w : b = a
    · subst w; exact u2_ne (by omega)
    · exact u2_ne (by omega)
  have A0 : yA (yTake g a (tm a) l) a (tm a) = max (yA g a (tm a)) l := u2_eq
  have KB : ∀ t k, yK (yTake g a (tm a) l) t k → yK g t k := fun t k h => h
  refine ⟨⟨fun b hb => ?_, fun t => (h1' t).mono x, fun b t h => (h1'' b t h).mono x⟩, ⟨fun b f hb hf => ?_, h2', h2''⟩, h3, h4, fun t1 d hd ht1 => ?_, ⟨fun t d hd => ?_, fun b t => ?_, h6'', fun b t hb => ?_⟩, fun b t1 k hb hk hK => ?_, fun b t' d t1 k hvv hlt hK => ?_, fun t1 t' k hlt hw' hK => ?_⟩
  · by_cases z : b = a
    · subst z
      rw [yup_eq]
      rcases hN with ⟨q, _⟩ | ⟨q, _⟩
      · rw [q]; exact (h1 b hb).mono x
      · rw [q]; exact ((h1' _).take _).mono x
    · rw [yup_ne z]; exact (h1 b hb).mono x
  · by_cases z : b = a
    · subst z
      rw [yup_eq] at hf
      rcases hN with ⟨q, _⟩ | ⟨q, _⟩
      · rw [q] at hf; exact h2 b f hb hf
      · rw [q] at hf; exact h2' _ f (List.mem_of_mem_take hf)
    · rw [yup_ne z] at hf; exact h2 b f hb hf
  · have hd' : yW g t1 = some d := hd
    by_cases z : d = a
    · subst z
      rw [← ht1, hw] at hd'
      exact absurd (Option.some.inj hd').symm hac
    · rw [yup_ne z]; exact h5 t1 d hd ht1
  · have hd' : yW g t = some d := hd
    by_cases z : d = a ∧ t = tm a
    · obtain ⟨rfl, rfl⟩ := z
      rw [hw] at hd'
      exact absurd (Option.some.inj hd').symm hac
    · rw [AA d t z]; exact h6 t d hd
  · by_cases z : b = a ∧ t = tm a
    · obtain ⟨rfl, rfl⟩ := z
      rw [A0]
      have := h6' b (tm b)
      show max (yA g b (tm b)) l ≤ (yL g (tm b)).length
      omega
    · rw [AA b t z]; exact h6' b t
  · by_cases z : b = a ∧ t = tm a
    · rw [z.1, z.2]; exact ⟨ha, Nat.le_refl _⟩
    · rw [AA b t z] at hb; exact h7 b t hb
  · have hK := KB t1 k hK
    have hkl := hK.le
    by_cases z : b = a
    · subst z
      rw [yup_eq]
      by_cases w : k ≤ yA g b t1
      · rcases h8 b t1 k hb w hK with v | v
        · have ht1 := (h7 b t1 (by omega)).2
          by_cases y : t1 = tm b
          · subst y
            exact Or.inl (hN.keep hkl.2 v)
          · rcases h10 t1 (tm b) k (by omega) ⟨c, hw⟩ hK with u | u
            · have hlen : ((yL g t1).take k).length = k := by rw [List.length_take]; omega
              have e2 : (yL g t1).take k = (yL g (tm b)).take k := by
                have := ypre_take u (k := k) (by omega)
                rw [this, List.take_take, Nat.min_self]
              have hk2 : k ≤ (yL g (tm b)).length := by
                have := u.length_le
                omega
              refine Or.inl ?_
              show (yL g t1).take k <+: L'
              rw [e2] at v ⊢
              exact hN.keep hk2 v
            · exact Or.inr (u.mono x)
        · exact Or.inr (v.mono x)
      · have y : t1 = tm b := by
          apply Classical.byContradiction
          intro y
          rw [AA b t1 (fun q => y q.2)] at hk
          exact w hk
        subst y
        rw [A0] at hk
        refine Or.inl ?_
        exact (ytake_pre (by omega)).trans hN.has
    · rw [yup_ne z]
      rw [AA b t1 (fun q => z q.1)] at hk
      exact (h8 b t1 k hb hk hK).imp id (fun w => w.mono x)
  · have hK := KB t1 k hK
    rcases h9 b t' d t1 k hvv hlt hK with w | w | w
    · exact Or.inl w
    · refine Or.inr (Or.inl ?_)
      by_cases z : b = a ∧ t1 = tm a
      · obtain ⟨rfl, rfl⟩ := z
        have := (h4 b t' d hvv).2.1
        omega
      · rw [AA b t1 z]; exact w
    · exact Or.inr (Or.inr (w.mono x))
  · exact (h10 t1 t' k hlt hw' (KB t1 k hK)).imp id (fun w => w.mono x)
/-- what is known to be agreed, m entries, in term t -/
def yCov (n : Nat) (g : YG) (m t : Nat) : Prop := m = 0 ∨ ∃ u k, u ≤ t ∧ m ≤ k ∧ yH n g u k
theorem yCov.mono {tm' : Nat → Nat} {g' : YG} (x : yX tm tm' g g') {m t : Nat} (h : yCov n g m t) : yCov n g' m t := by
  rcases h with h | ⟨u, k, h1, h2, h3⟩
  · exact Or.inl h
  · exact Or.inr ⟨u, k, h1, h2, h3.mono x⟩
theorem yCov.up {m m' t t' : Nat} (h : yCov n g m t) (hm : m' ≤ m) (ht : t ≤ t') : yCov n g m' t' := by
  rcases h with h | ⟨u, k, h1, h2, h3⟩
  · exact Or.inl (by omega)
  · exact Or.inr ⟨u, k, by omega, by omega, h3⟩
/-- the first m entries of a log are agreed -/
def yCI (n : Nat) (g : YG) (m t : Nat) (L : List YE) : Prop := m = 0 ∨ ∃ u k, u ≤ t ∧ m ≤ k ∧ yH n g u k ∧ (yL g u).take m <+: L
theorem yCI.cov {m t : Nat} {L : List YE} (h : yCI n g m t L) : yCov n g m t := by
  rcases h with h | ⟨u, k, h1, h2, h3, _⟩
  · exact Or.inl h
  · exact Or.inr ⟨u, k, h1, h2, h3⟩
theorem yCI.le {m t : Nat} {L : List YE} (h : yCI n g m t L) : m ≤ L.length := by
  rcases h with h | ⟨u, k, h1, h2, h3, h4⟩
  · omega
  · have := h4.length_le
    rw [List.length_take] at this
    have := h3.1.le.2
    omega
theorem yCI.mono {tm' : Nat → Nat} {g' : YG} (x : yX tm tm' g g') {m t t' : Nat} {L L' : List YE} (h : yCI n g m t L) (ht : t ≤ t') (hL : L <+: L') : yCI n g' m t' L' := by
  rcases h with h | ⟨u, k, h1, h2, h3, h4⟩
  · exact Or.inl h
  · refine Or.inr ⟨u, k, by omega, h2, h3.mono x, ?_⟩
    have := h3.1.le.2
    rw [ypre_take (x.2.1 u) (by omega)]
    exact h4.trans hL
/-- agreed entries are at the beginning of the log of a later leader -/
theorem yCov.pre (H : yI n tm lg g) {m t c : Nat} (h : yCov n g m t) (hw : yW g t = some c) : m ≤ (yL g t).length ∧ ∀ u k, u ≤ t → m ≤ k → yH n g u k → (yL g u).take m = (yL g t).take m := by
  have key : ∀ u k, u ≤ t → m ≤ k → yH n g u k → m ≤ (yL g t).length ∧ (yL g u).take m = (yL g t).take m := by
    intro u k h1 h2 h3
    have p := H.later h3 h1 hw
    have hl := h3.1.le.2
    have hlen : ((yL g u).take k).length = k := by rw [List.length_take]; omega
    have := p.length_le
    refine ⟨by omega, ?_⟩
    have e := ypre_take p (k := m) (by omega)
    rw [e, List.take_take, Nat.min_eq_left h2]
  refine ⟨?_, fun u k h1 h2 h3 => (key u k h1 h2 h3).2⟩
  rcases h with h | ⟨u, k, h1, h2, h3⟩
  · omega
  · exact (key u k h1 h2 h3).1
theorem yCI.take (H : yI n tm lg g) {a c m l : Nat} {L' : List YE} (h : yCI n g m (tm a) (lg a)) (hw : yW g (tm a) = some c) (hl : l ≤ (yL g (tm a)).length) (hN : yNew g (tm a) l (lg a) L') : yCI n (yTake g a (tm a) l) m (tm a) L' := by
  have x := yX_take (g := g) (l := l) (tm := tm) (a := a) rfl
  obtain ⟨p1, p2⟩ := h.cov.pre H hw
  rcases h with h | ⟨u, k, h1, h2, h3, h4⟩
  · exact Or.inl h
  · refine Or.inr ⟨u, k, h1, h2, h3.mono x, ?_⟩
    have e := p2 u k h1 h2 h3
    show (yL g u).take m <+: L'
    rw [e] at h4 ⊢
    exact hN.keep p1 h4
/-- a machine that takes l entries and hears that m are agreed -/
theorem yCI.hear (H : yI n tm lg g) {a c m l : Nat} {L' : List YE} (h : yCov n g m (tm a)) (hw : yW g (tm a) = some c) (hl : l ≤ (yL g (tm a)).length) (hN : yNew g (tm a) l (lg a) L') : yCI n (yTake g a (tm a) l) (min m l) (tm a) L' := by
  have x := yX_take (g := g) (l := l) (tm := tm) (a := a) rfl
  rcases h with h | ⟨u, k, h1, h2, h3⟩
  · exact Or.inl (by omega)
  · by_cases z : min m l = 0
    · exact Or.inl z
    · have hc : yCov n g (min m l) (tm a) := Or.inr ⟨u, k, h1, by omega, h3⟩
      obtain ⟨p1, p2⟩ := hc.pre H hw
      refine Or.inr ⟨u, k, h1, by omega, h3.mono x, ?_⟩
      show (yL g u).take (min m l) <+: L'
      rw [p2 u k h1 (by omega) h3]
      exact (ytake_pre (by omega)).trans hN.has
end RAFT3
