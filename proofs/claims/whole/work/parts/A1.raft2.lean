/-! ===== leaders and logs: the steps ===== -/
section RAFT2
variable {n : Nat} {tm : Nat → Nat} {lg : Nat → List YE} {g : YG}
/-- a greater term is learnt -/
theorem yX_term {a t : Nat} (ht : tm a ≤ t) : yX tm (yup tm a t) g g := by
  refine ⟨fun b => ?_, fun _ => List.prefix_refl _, fun _ _ _ => rfl, fun _ _ => Nat.le_refl _, fun _ _ h => h, fun _ _ _ h => h, fun _ _ _ => rfl⟩
  by_cases c : b = a
  · subst c; rw [yup_eq]; exact ht
  · rw [yup_ne c]; exact Nat.le_refl _
theorem yI_term (H : yI n tm lg g) {a t : Nat} (ht : tm a < t) : yI n (yup tm a t) lg g := by
  have x := yX_term (g := g) (Nat.le_of_lt ht)
  have le : ∀ b, tm b ≤ yup tm a t b := x.1
  obtain ⟨h1, ⟨h2, h2', h2''⟩, h3, h4, h5, ⟨h6, h6', h6'', h7⟩, h8, h9, h10⟩ := H
  refine ⟨h1, ⟨fun b e hb he => Nat.le_trans (h2 b e hb he) (le b), h2', h2''⟩, fun t1 c hc => ?_, fun b t1 c hc => ?_, fun t1 c hc ht1 => ?_, ⟨h6, h6', h6'', fun b t1 hb => ⟨(h7 b t1 hb).1, Nat.le_trans (h7 b t1 hb).2 (le b)⟩⟩, fun b t1 k hb hk hK => ?_, fun b t' c t1 k hv hlt hK => ?_, fun t1 t' k hlt hw hK => ?_⟩
  · obtain ⟨q1, q2, q3⟩ := h3 t1 c hc
    exact ⟨q1, Nat.le_trans q2 (le c), q3⟩
  · obtain ⟨q1, q2, q3⟩ := h4 b t1 c hc
    exact ⟨q1, Nat.le_trans q2 (le b), q3⟩
  · obtain ⟨q1, q2, q3⟩ := h3 t1 c hc
    by_cases z : c = a
    · subst z; rw [yup_eq] at ht1; omega
    · rw [yup_ne z] at ht1; exact h5 t1 c hc ht1
  · exact (h8 b t1 k hb hk hK).imp id (fun z => z.mono x)
  · exact (h9 b t' c t1 k hv hlt hK).imp id (Or.imp id (fun z => z.mono x))
  · exact (h10 t1 t' k hlt hw hK).imp id (fun z => z.mono x)
/-- one stands -/
def yStand (tm : Nat → Nat) (lg : Nat → List YE) (g : YG) (c : Nat) : YG := (yW g, yL g, yA g, u2 (yC g) c (tm c + 1) (lg c), u2 (yV g) c (tm c + 1) (some c))
theorem yV_none (H : yI n tm lg g) {a t : Nat} (h : tm a < t) : yV g a t = none := by
  cases z : yV g a t with
  | none => rfl
  | some c => exact absurd (H.2.2.2.1 a t c z).2.1 (by omega)
theorem yX_stand (H : yI n tm lg g) {c : Nat} : yX tm (yup tm c (tm c + 1)) g (yStand tm lg g c) := by
  have hn := yV_none H (a := c) (t := tm c + 1) (by omega)
  refine ⟨(yX_term (g := g) (Nat.le_succ _)).1, fun _ => List.prefix_refl _, fun _ _ _ => rfl, fun _ _ => Nat.le_refl _, fun _ _ h => h, fun a t d h => ?_, fun d t h => ?_⟩
  · show u2 (yV g) c (tm c + 1) (some c) a t = some d
    by_cases z : a = c ∧ t = tm c + 1
    · obtain ⟨rfl, rfl⟩ := z
      rw [hn] at h; exact absurd h (by simp)
    · rw [u2_ne (by omega)]; exact h
  · show u2 (yC g) c (tm c + 1) (lg c) d t = _
    by_cases z : d = c ∧ t = tm c + 1
    · obtain ⟨rfl, rfl⟩ := z
      rw [hn] at h; exact absurd h (by simp)
    · rw [u2_ne (by omega)]
theorem yI_stand (H : yI n tm lg g) {c : Nat} (hc : c < n) : yI n (yup tm c (tm c + 1)) lg (yStand tm lg g c) := by
  have x := yX_stand (lg := lg) H (c := c)
  have hn := yV_none H (a := c) (t := tm c + 1) (by omega)
  have le : ∀ b, tm b ≤ yup tm c (tm c + 1) b := x.1
  obtain ⟨⟨h1, h1', h1''⟩, ⟨h2, h2', h2''⟩, h3, h4, h5, ⟨h6, h6', h6'', h7⟩, h8, h9, h10⟩ := H
  have vt : ∀ a t d, yV (yStand tm lg g c) a t = some d → (a = c ∧ t = tm c + 1 ∧ d = c) ∨ (yV g a t = some d ∧ ¬ (a = c ∧ t = tm c + 1)) := by
    intro a t d h
    have h' : u2 (yV g) c (tm c + 1) (some c) a t = some d := h
    by_cases z : a = c ∧ t = tm c + 1
    · obtain ⟨rfl, rfl⟩ := z
      rw [u2_eq] at h'
      exact Or.inl ⟨rfl, rfl, (Option.some.inj h').symm⟩
    · rw [u2_ne (by omega)] at h'
      exact Or.inr ⟨h', z⟩
  have cl : ∀ a t, ¬ (a = c ∧ t = tm c + 1) → yC (yStand tm lg g c) a t = yC g a t := fun a t z => u2_ne (by omega)
  have cl0 : yC (yStand tm lg g c) c (tm c + 1) = lg c := u2_eq
  have vt0 : yV (yStand tm lg g c) c (tm c + 1) = some c := u2_eq
  refine ⟨⟨fun a ha => (h1 a ha).mono x, fun t => (h1' t).mono x, fun a t h => ?_⟩, ⟨fun b e hb he => Nat.le_trans (h2 b e hb he) (le b), h2', fun a t e h he => ?_⟩, fun t1 d hd => ?_, fun b t1 d hd => ?_, fun t1 d hd ht1 => ?_, ⟨h6, h6', h6'', fun b t1 hb => ⟨(h7 b t1 hb).1, Nat.le_trans (h7 b t1 hb).2 (le b)⟩⟩, fun b t1 k hb hk hK => ?_, fun b t' d t1 k hv hlt hK => ?_, fun t1 t' k hlt hw hK => ?_⟩
  · rcases vt a t a h with ⟨rfl, rfl, _⟩ | ⟨q1, q2⟩
    · rw [cl0]; exact (h1 a hc).mono x
    · rw [cl a t q2]; exact (h1'' a t q1).mono x
  · rcases vt a t a h with ⟨rfl, rfl, _⟩ | ⟨q1, q2⟩
    · rw [cl0] at he
      have := h2 a e hc he
      omega
    · rw [cl a t q2] at he; exact h2'' a t e q1 he
  · obtain ⟨q1, q2, q3, q, q4, q5⟩ := h3 t1 d hd
    exact ⟨q1, Nat.le_trans q2 (le d), x.2.2.2.2.2.1 _ _ _ q3, q, q4, fun a ha hq => x.2.2.2.2.2.1 _ _ _ (q5 a ha hq)⟩
  · rcases vt b t1 d hd with ⟨rfl, rfl, rfl⟩ | ⟨q1, q2⟩
    · exact ⟨hc, by rw [yup_eq]; exact Nat.le_refl _, hc, vt0⟩
    · obtain ⟨w1, w2, w3, w4⟩ := h4 b t1 d q1
      exact ⟨w1, Nat.le_trans w2 (le b), w3, x.2.2.2.2.2.1 _ _ _ w4⟩
  · obtain ⟨q1, q2, q3⟩ := h3 t1 d hd
    by_cases z : d = c
    · subst z; rw [yup_eq] at ht1; omega
    · rw [yup_ne z] at ht1; exact h5 t1 d hd ht1
  · exact (h8 b t1 k hb hk hK).imp id (fun z => z.mono x)
  · rcases vt b t' d hv with ⟨rfl, rfl, rfl⟩ | ⟨q1, q2⟩
    · rw [cl0]
      by_cases z : k ≤ yA g d t1
      · rcases h8 d t1 k hc z hK with w | w
        · exact Or.inl w
        · exact Or.inr (Or.inr (w.mono x))
      · exact Or.inr (Or.inl (by show yA g d t1 < k; omega))
    · have hd := (h4 b t' d q1).2.2.2
      rw [x.2.2.2.2.2.2 d t' hd]
      exact (h9 b t' d t1 k q1 hlt hK).imp id (Or.imp id (fun z => z.mono x))
  · exact (h10 t1 t' k hlt hw hK).imp id (fun z => z.mono x)
/-- the log of one that gets a vote holds all that the voter's log must hold -/
theorem y_upto (H : yI n tm lg g) {a c t0 t k : Nat} (ha : a < n) (hv : yV g c t0 = some c) (hup : yla (lg a) < yla (yC g c t0) ∨ (yla (lg a) = yla (yC g c t0) ∧ (lg a).length ≤ (yC g c t0).length)) (ht : t < t0) (hK : yK g t k) (hp : (yL g t).take k <+: lg a) : (yL g t).take k <+: yC g c t0 ∨ yB n tm g t k := by
  obtain ⟨⟨h1, h1', h1''⟩, ⟨h2, h2', h2''⟩, h3, h4, h5, ⟨h6, h6', h6'', h7⟩, h8, h9, h10⟩ := H
  obtain ⟨hk1, hk2⟩ := hK.le
  obtain ⟨eK, _, eK2, eK3⟩ := hK
  have hK : yK g t k := ⟨eK, hk1, eK2, eK3⟩
  have hlen : ((yL g t).take k).length = k := by rw [List.length_take]; omega
  have tk : ((yL g t).take k)[k - 1]? = some eK := by
    rw [List.getElem?_take, if_pos (by omega)]; exact eK2
  have La : (lg a)[k - 1]? = some eK := ypre_get hp tk
  have lane : lg a ≠ [] := by
    intro z
    rw [z] at La
    exact absurd La (by simp)
  obtain ⟨ea, hea⟩ := ylast_ex lane
  have hla : k ≤ (lg a).length := by
    have := (List.getElem?_eq_some_iff.mp La).1
    omega
  have tea : t ≤ yT ea := by
    rw [← eK3]
    exact (h1 a ha).terms h2' (by omega) La hea
  rw [yla_some hea] at hup
  have cne : yC g c t0 ≠ [] := by
    intro z
    rw [z] at hup
    have z0 : yla ([] : List YE) = 0 := rfl
    have z1 : ([] : List YE).length = 0 := rfl
    rw [z0, z1] at hup
    omega
  obtain ⟨ec, hec⟩ := ylast_ex cne
  rw [yla_some hec] at hup
  obtain ⟨⟨wc, hwc⟩, wholec⟩ := (h1'' c t0 hv).whole hec
  have tec : yT ec < t0 := h2'' c t0 ec hv (List.mem_of_getElem? hec)
  rcases hup with hup | ⟨hup, hlen2⟩
  · rcases h10 t (yT ec) k (by omega) ⟨wc, hwc⟩ hK with q | q
    · refine Or.inl ?_
      have Lu : (yL g (yT ec))[k - 1]? = some eK := ypre_get q tk
      have kc : k ≤ (yC g c t0).length := by
        apply Classical.byContradiction
        intro z
        have hcl := (List.getElem?_eq_some_iff.mp hec).1
        have e1 : (yL g (yT ec))[(yC g c t0).length - 1]? = some ec := by
          have := hec
          rw [wholec, List.length_take, List.getElem?_take] at this
          split at this
          · rename_i w
            rw [show min (yC g c t0).length (yL g (yT ec)).length = (yC g c t0).length from ?_] at this
            · exact this
            · have := (List.getElem?_eq_some_iff.mp Lu).1
              omega
          · exact absurd this (by simp)
        have := (h1' (yT ec)).terms h2' (show (yC g c t0).length - 1 ≤ k - 1 by omega) e1 Lu
        omega
      have e2 : (yL g t).take k = (yL g (yT ec)).take k := by
        have := ypre_take q (k := k) (by omega)
        rw [this, List.take_take, Nat.min_self]
      rw [e2, wholec]
      exact ytake_pre kc
    · exact Or.inr q
  · refine Or.inl ?_
    obtain ⟨_, wholea⟩ := (h1 a ha).whole hea
    rw [hup] at wholea
    have : lg a <+: yC g c t0 := by
      rw [wholea, wholec]
      have e3 : (List.take (lg a).length (yL g (yT ec))).length ≤ (yC g c t0).length := by rw [← wholea]; exact hlen2
      exact ytake_pre hlen2
    exact hp.trans this
/-- a vote is given -/
def yVote (g : YG) (a t c : Nat) : YG := (yW g, yL g, yA g, yC g, u2 (yV g) a t (some c))
theorem yX_vote {a t c : Nat} (hn : yV g a t = none) : yX tm tm g (yVote g a t c) := by
  refine ⟨fun _ => Nat.le_refl _, fun _ => List.prefix_refl _, fun _ _ _ => rfl, fun _ _ => Nat.le_refl _, fun _ _ h => h, fun b t1 d h => ?_, fun d t1 h => rfl⟩
  show u2 (yV g) a t (some c) b t1 = some d
  by_cases z : b = a ∧ t1 = t
  · obtain ⟨rfl, rfl⟩ := z
    rw [hn] at h; exact absurd h (by simp)
  · rw [u2_ne (by omega)]; exact h
theorem yI_vote (H : yI n tm lg g) {a c : Nat} (ha : a < n) (hn : yV g a (tm a) = none) (hv : yV g c (tm a) = some c) (hup : yla (lg a) < yla (yC g c (tm a)) ∨ (yla (lg a) = yla (yC g c (tm a)) ∧ (lg a).length ≤ (yC g c (tm a)).length)) : yI n tm lg (yVote g a (tm a) c) := by
  have x := yX_vote (tm := tm) (c := c) hn
  have key := fun t k => y_upto (t := t) (k := k) H ha hv hup
  obtain ⟨⟨h1, h1', h1''⟩, ⟨h2, h2', h2''⟩, h3, h4, h5, ⟨h6, h6', h6'', h7⟩, h8, h9, h10⟩ := H
  have hac : a ≠ c := by
    intro z; subst z; rw [hn] at hv; exact absurd hv (by simp)
  have vt : ∀ b t d, yV (yVote g a (tm a) c) b t = some d → (b = a ∧ t = tm a ∧ d = c) ∨ (yV g b t = some d ∧ ¬ (b = a ∧ t = tm a)) := by
    intro b t d h
    have h' : u2 (yV g) a (tm a) (some c) b t = some d := h
    by_cases z : b = a ∧ t = tm a
    · obtain ⟨rfl, rfl⟩ := z
      rw [u2_eq] at h'
      exact Or.inl ⟨rfl, rfl, (Option.some.inj h').symm⟩
    · rw [u2_ne (by omega)] at h'
      exact Or.inr ⟨h', z⟩
  have self : ∀ b t, yV (yVote g a (tm a) c) b t = some b → yV g b t = some b := by
    intro b t h
    rcases vt b t b h with ⟨q1, _, q3⟩ | ⟨q1, _⟩
    · exact absurd (q1.symm.trans q3) hac
    · exact q1
  refine ⟨⟨fun b hb => (h1 b hb).mono x, fun t => (h1' t).mono x, fun b t h => (h1'' b t (self b t h)).mono x⟩, ⟨h2, h2', fun b t e h he => h2'' b t e (self b t h) he⟩, fun t1 d hd => ?_, fun b t1 d hd => ?_, h5, ⟨h6, h6', h6'', h7⟩, fun b t1 k hb hk hK => ?_, fun b t' d t1 k hvv hlt hK => ?_, fun t1 t' k hlt hw hK => ?_⟩
  · obtain ⟨q1, q2, q3, q, q4, q5⟩ := h3 t1 d hd
    exact ⟨q1, q2, x.2.2.2.2.2.1 _ _ _ q3, q, q4, fun b hb hq => x.2.2.2.2.2.1 _ _ _ (q5 b hb hq)⟩
  · rcases vt b t1 d hd with ⟨rfl, rfl, rfl⟩ | ⟨q1, q2⟩
    · exact ⟨ha, Nat.le_refl _, (h4 d (tm b) d hv).1, x.2.2.2.2.2.1 _ _ _ hv⟩
    · obtain ⟨w1, w2, w3, w4⟩ := h4 b t1 d q1
      exact ⟨w1, w2, w3, x.2.2.2.2.2.1 _ _ _ w4⟩
  · exact (h8 b t1 k hb hk hK).imp id (fun z => z.mono x)
  · rcases vt b t' d hvv with ⟨rfl, rfl, rfl⟩ | ⟨q1, q2⟩
    · by_cases z : k ≤ yA g b t1
      · rcases h8 b t1 k ha z hK with w | w
        · rcases key t1 k hlt hK w with v | v
          · exact Or.inl v
          · exact Or.inr (Or.inr (v.mono x))
        · exact Or.inr (Or.inr (w.mono x))
      · exact Or.inr (Or.inl (by show yA g b t1 < k; omega))
    · exact (h9 b t' d t1 k q1 hlt hK).imp id (Or.imp id (fun z => z.mono x))
  · exact (h10 t1 t' k hlt hw hK).imp id (fun z => z.mono x)
/-- one becomes the leader -/
def yElect (g : YG) (t c : Nat) (L : List YE) : YG := (yup (yW g) t (some c), yup (yL g) t L, u2 (yA g) c t L.length, yC g, yV g)
theorem yW_one (H : yI n tm lg g) {t c : Nat} {q : Nat → Bool} (hq : ymaj n q) (hv : ∀ a, a < n → q a = true → yV g a t = some c) {d : Nat} (hd : yW g t = some d) : d = c := by
  obtain ⟨_, _, _, r, r1, r2⟩ := H.2.2.1 t d hd
  obtain ⟨a, ha, hqa, hra⟩ := ymaj_both hq r1
  have e1 := hv a ha hqa
  rw [r2 a ha hra] at e1
  exact Option.some.inj e1
theorem yX_elect (H : yI n tm lg g) {t c : Nat} {L : List YE} (hw : yW g t = none) (ht : tm c = t) : yX tm tm g (yElect g t c L) := by
  have h0 : yL g t = [] := H.2.2.2.2.2.1.2.2.1 t hw
  refine ⟨fun _ => Nat.le_refl _, fun t1 => ?_, fun a t1 h => ?_, fun a t1 => ?_, fun t1 d h => ?_, fun _ _ _ h => h, fun _ _ _ => rfl⟩
  · show yL g t1 <+: yup (yL g) t L t1
    by_cases z : t1 = t
    · subst z; rw [h0]; exact List.nil_prefix
    · rw [yup_ne z]; exact List.prefix_refl _
  · by_cases z : a = c
    · subst z; exact u2_ne (by omega)
    · exact u2_ne (by omega)
  · show yA g a t1 ≤ u2 (yA g) c t L.length a t1
    by_cases z : a = c ∧ t1 = t
    · obtain ⟨rfl, rfl⟩ := z
      have := H.2.2.2.2.2.1.2.1 a t1
      rw [h0] at this
      have z0 : ([] : List YE).length = 0 := rfl
      omega
    · rw [u2_ne (by omega)]; exact Nat.le_refl _
  · show yup (yW g) t (some c) t1 = some d
    by_cases z : t1 = t
    · subst z; rw [hw] at h; exact absurd h (by simp)
    · rw [yup_ne z]; exact h
theorem yI_elect (H : yI n tm lg g) {c : Nat} {q : Nat → Bool} (hc : c < n) (hw : yW g (tm c) = none) (hv : yV g c (tm c) = some c) (hl : lg c = yC g c (tm c)) (hq : ymaj n q) (hqv : ∀ a, a < n → q a = true → yV g a (tm c) = some c) : yI n tm lg (yElect g (tm c) c (lg c)) := by
  have x := yX_elect (L := lg c) H hw rfl
  have h0 : yL g (tm c) = [] := H.2.2.2.2.2.1.2.2.1 _ hw
  obtain ⟨⟨h1, h1', h1''⟩, ⟨h2, h2', h2''⟩, h3, h4, h5, ⟨h6, h6', h6'', h7⟩, h8, h9, h10⟩ := H
  have WW : ∀ t d, yW (yElect g (tm c) c (lg c)) t = some d → (t = tm c ∧ d = c) ∨ (t ≠ tm c ∧ yW g t = some d) := by
    intro t d h
    have h' : yup (yW g) (tm c) (some c) t = some d := h
    by_cases z : t = tm c
    · subst z; rw [yup_eq] at h'; exact Or.inl ⟨rfl, (Option.some.inj h').symm⟩
    · rw [yup_ne z] at h'; exact Or.inr ⟨z, h'⟩
  have LL : ∀ t, t ≠ tm c → yL (yElect g (tm c) c (lg c)) t = yL g t := fun t z => yup_ne z
  have L0 : yL (yElect g (tm c) c (lg c)) (tm c) = lg c := yup_eq
  have lt0 : ∀ e, e ∈ lg c → yT e < tm c := fun e he => by rw [hl] at he; exact h2'' c (tm c) e hv he
  have KK0 : ∀ k, ¬ yK (yElect g (tm c) c (lg c)) (tm c) k := by
    rintro k ⟨e, _, e2, e3⟩
    rw [L0] at e2
    have := lt0 e (List.mem_of_getElem? e2)
    omega
  have KB : ∀ t k, yK (yElect g (tm c) c (lg c)) t k → t ≠ tm c ∧ yK g t k := by
    intro t k hK
    have z : t ≠ tm c := by intro z; subst z; exact KK0 k hK
    refine ⟨z, ?_⟩
    obtain ⟨e, e1, e2, e3⟩ := hK
    rw [LL t z] at e2
    exact ⟨e, e1, e2, e3⟩
  have AA : ∀ a t, t ≠ tm c → yA (yElect g (tm c) c (lg c)) a t = yA g a t := fun a t z => u2_ne (by omega)
  refine ⟨⟨fun b hb => (h1 b hb).mono x, fun t => ?_, fun b t h => (h1'' b t h).mono x⟩, ⟨h2, fun t e he => ?_, h2''⟩, fun t1 d hd => ?_, h4, fun t1 d hd ht1 => ?_, ⟨fun t d hd => ?_, fun a t => ?_, fun t hn => ?_, fun a t ha => ?_⟩, fun b t1 k hb hk hK => ?_, fun b t' d t1 k hvv hlt hK => ?_, fun t1 t' k hlt hw' hK => ?_⟩
  · by_cases z : t = tm c
    · subst z; rw [L0]; exact (h1 c hc).mono x
    · rw [LL t z]; exact (h1' t).mono x
  · by_cases z : t = tm c
    · subst z; rw [L0] at he; exact Nat.le_of_lt (lt0 e he)
    · rw [LL t z] at he; exact h2' t e he
  · rcases WW t1 d hd with ⟨rfl, rfl⟩ | ⟨_, q1⟩
    · exact ⟨hc, Nat.le_refl _, hv, q, hq, hqv⟩
    · exact h3 t1 d q1
  · rcases WW t1 d hd with ⟨rfl, rfl⟩ | ⟨z, q1⟩
    · rw [L0]
    · rw [LL t1 z]; exact h5 t1 d q1 ht1
  · rcases WW t d hd with ⟨rfl, rfl⟩ | ⟨z, q1⟩
    · rw [L0]; exact u2_eq
    · rw [LL t z, AA d t z]; exact h6 t d q1
  · by_cases z : t = tm c
    · subst z
      rw [L0]
      show u2 (yA g) c (tm c) (lg c).length a (tm c) ≤ _
      by_cases w : a = c
      · subst w; rw [u2_eq]; exact Nat.le_refl _
      · rw [u2_ne (by omega)]
        have := h6' a (tm c)
        rw [h0] at this
        have z0 : ([] : List YE).length = 0 := rfl
        omega
    · rw [LL t z, AA a t z]; exact h6' a t
  · have hn' : yup (yW g) (tm c) (some c) t = none := hn
    by_cases z : t = tm c
    · subst z; rw [yup_eq] at hn'; exact absurd hn' (by simp)
    · rw [yup_ne z] at hn'; rw [LL t z]; exact h6'' t hn'
  · by_cases z : a = c ∧ t = tm c
    · rw [z.1, z.2]; exact ⟨hc, Nat.le_refl _⟩
    · have ha' : 0 < u2 (yA g) c (tm c) (lg c).length a t := ha
      rw [u2_ne (by omega)] at ha'
      exact h7 a t ha'
  · obtain ⟨z, hK'⟩ := KB t1 k hK
    rw [AA b t1 z] at hk
    rw [LL t1 z]
    exact (h8 b t1 k hb hk hK').imp id (fun w => w.mono x)
  · obtain ⟨z, hK'⟩ := KB t1 k hK
    rw [AA b t1 z, LL t1 z]
    exact (h9 b t' d t1 k hvv hlt hK').imp id (Or.imp id (fun w => w.mono x))
  · obtain ⟨z, hK'⟩ := KB t1 k hK
    rw [LL t1 z]
    obtain ⟨d, hd⟩ := hw'
    rcases WW t' d hd with ⟨rfl, rfl⟩ | ⟨z', q1⟩
    · rw [L0]
      refine Or.imp (fun (z : List.take k (yL g t1) <+: yC g d (tm d)) => by rw [hl]; exact z) id ?_
      by_cases w : ∀ a, a < n → q a = true → yA g a t1 < k
      · refine Or.inr (yB.mono x ⟨q, hq, fun a ha hqa => ⟨?_, w a ha hqa⟩⟩)
        exact Nat.lt_of_lt_of_le hlt (h4 a _ _ (hqv a ha hqa)).2.1
      · have ⟨a, ha, hqa, hak⟩ : ∃ a, a < n ∧ q a = true ∧ k ≤ yA g a t1 := by
          apply Classical.byContradiction
          intro z
          exact w (fun a ha hqa => by
            apply Classical.byContradiction
            intro y
            exact z ⟨a, ha, hqa, by omega⟩)
        rcases h9 a (tm d) d t1 k (hqv a ha hqa) hlt hK' with v | v | v
        · exact Or.inl v
        · omega
        · exact Or.inr (v.mono x)
    · rw [LL t' z']
      exact (h10 t1 t' k hlt ⟨d, q1⟩ hK').imp id (fun w => w.mono x)
end RAFT2
