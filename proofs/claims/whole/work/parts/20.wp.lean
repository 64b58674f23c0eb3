/-! ===== runs of the abstract machine, by equations ===== -/
/-- from here the run ends, and the end is as Q says -/
def WP (d : Nat) (y : MI) (pc : Nat) (lo : Lo) (st : List Value) (h : HP) (Q : Out → HP → Prop) : Prop := ∃ (n : Nat) (o : Out) (h' : HP), ex n d y pc lo st h = some (o, h') ∧ Q o h'
/-- what follows a call of z -/
def KK (d : Nat) (y z : MI) (pc : Nat) (lo : Lo) (rest : List Value) (Q : Out → HP → Prop) : Out → HP → Prop := fun o h1 => match o with
  | .inl v => WP (d + 1) y (pc + 3) lo (v.toList ++ rest) h1 Q
  | .inr e => if (mHH z).isEmpty = true ∧ mIni z = false then (match hnd y pc e with
    | none => (mHH y).isEmpty = true ∧ Q (.inr e) h1
    | some _ => (match hdl y pc e lo with
      | some (pc', lo') => WP (d + 1) y pc' lo' [] h1 Q
      | none => False)) else False
theorem ex_succ {n d : Nat} {y : MI} {pc : Nat} {lo : Lo} {st : List Value} {h : HP} {i : Instr} {len : Nat} (hd : decode (mCode y) pc = .ok (i, len)) : ex (n + 1) d y pc lo st h = (match stpR y i len pc lo st h with
      | none => none
      | some (.inl (pc', ls', st', h')) => ex n d y pc' ls' st' h'
      | some (.inr (.inr r)) => some r
      | some (.inr (.inl (z, as, rest))) => (match d with
        | 0 => none
        | d' + 1 => if as.length ≤ mML z then (match ex n d' z 0 (ent z as) [] h with
          | none => none
          | some (.inl v, h') => ex n (d' + 1) y (pc + 3) lo (v.toList ++ rest) h'
          | some (.inr e, h') => if (mHH z).isEmpty = true ∧ mIni z = false then (match hnd y pc e with
            | none => if (mHH y).isEmpty = true then some (.inr e, h') else none
            | some _ => (match hdl y pc e lo with
              | some (pc', ls') => ex n (d' + 1) y pc' ls' [] h'
              | none => none)) else none) else none)) := by
  rw [ex, hd]
  rfl
section WPS
variable {d : Nat} {y : MI} {pc pc' : Nat} {lo lo' : Lo} {st st' : List Value} {h h' : HP} {Q : Out → HP → Prop} {i : Instr} {len : Nat}
theorem wp_eq (hd : decode (mCode y) pc = .ok (i, len)) (hs : stpR y i len pc lo st h = some (.inl (pc', lo', st', h'))) : WP d y pc lo st h Q = WP d y pc' lo' st' h' Q := by
  apply propext
  constructor
  · rintro ⟨n, o, h1, he, hq⟩
    cases n with
    | zero => simp [ex] at he
    | succ n =>
      rw [ex_succ hd, hs] at he
      exact ⟨n, o, h1, he, hq⟩
  · rintro ⟨n, o, h1, he, hq⟩
    refine ⟨n + 1, o, h1, ?_, hq⟩
    rw [ex_succ hd, hs]
    exact he
theorem wp_end {o : Out} (hd : decode (mCode y) pc = .ok (i, len)) (hs : stpR y i len pc lo st h = some (.inr (.inr (o, h')))) : WP d y pc lo st h Q = Q o h' := by
  apply propext
  constructor
  · rintro ⟨n, o1, h1, he, hq⟩
    cases n with
    | zero => simp [ex] at he
    | succ n =>
      rw [ex_succ hd, hs] at he
      cases he
      exact hq
  · intro hq
    refine ⟨1, o, h', ?_, hq⟩
    rw [ex_succ hd, hs]
theorem wp_call {z : MI} {as rest : List Value} (hd : decode (mCode y) pc = .ok (i, len)) (hs : stpR y i len pc lo st h = some (.inr (.inl (z, as, rest)))) (hl : as.length ≤ mML z) : WP (d + 1) y pc lo st h Q = WP d z 0 (ent z as) [] h (KK d y z pc lo rest Q) := by
  apply propext
  constructor
  · rintro ⟨n, o, h1, he, hq⟩
    cases n with
    | zero => simp [ex] at he
    | succ n =>
      rw [ex_succ hd, hs] at he
      simp only [if_pos hl] at he
      cases hc : ex n d z 0 (ent z as) [] h with
      | none => rw [hc] at he; simp at he
      | some q =>
        rw [hc] at he
        obtain ⟨o2, h2⟩ := q
        refine ⟨n, o2, h2, hc, ?_⟩
        unfold KK
        rcases o2 with v | x
        · exact ⟨n, o, h1, he, hq⟩
        · simp only at he ⊢
          split at he
          · rename_i hz
            rw [if_pos hz]
            cases hh : hnd y pc x with
            | none =>
              rw [hh] at he
              simp only at he ⊢
              split at he
              · rename_i hy
                cases he
                exact ⟨hy, hq⟩
              · cases he
            | some q0 =>
              rw [hh] at he
              simp only at he ⊢
              cases hq2 : hdl y pc x lo with
              | none => rw [hq2] at he; simp at he
              | some pl =>
                rw [hq2] at he
                exact ⟨n, o, h1, he, hq⟩
          · cases he
  · rintro ⟨n, o2, h2, hc, hk⟩
    unfold KK at hk
    rcases o2 with v | x
    · obtain ⟨n2, o, h1, he, hq⟩ := hk
      refine ⟨max n n2 + 1, o, h1, ?_, hq⟩
      rw [ex_succ hd, hs]
      simp only [if_pos hl]
      rw [ex_le (Nat.le_max_left n n2) hc]
      exact ex_le (Nat.le_max_right n n2) he
    · simp only at hk
      split at hk
      · rename_i hz
        cases hh : hnd y pc x with
        | none =>
          rw [hh] at hk
          refine ⟨n + 1, .inr x, h2, ?_, hk.2⟩
          rw [ex_succ hd, hs]
          simp only [if_pos hl]
          rw [hc]
          simp only
          rw [if_pos hz, hh]
          simp only
          rw [if_pos hk.1]
        | some q0 =>
          rw [hh] at hk
          simp only at hk
          cases hq2 : hdl y pc x lo with
          | none => rw [hq2] at hk; exact hk.elim
          | some pl =>
            rw [hq2] at hk
            obtain ⟨n2, o, h1, he, hq⟩ := hk
            refine ⟨max n n2 + 1, o, h1, ?_, hq⟩
            rw [ex_succ hd, hs]
            simp only [if_pos hl]
            rw [ex_le (Nat.le_max_left n n2) hc]
            simp only
            rw [if_pos hz, hh]
            simp only
            rw [hq2]
            exact ex_le (Nat.le_max_right n n2) he
      · exact hk.elim
theorem WP.mono {Q' : Out → HP → Prop} (hw : WP d y pc lo st h Q) (hq : ∀ o h1, Q o h1 → Q' o h1) : WP d y pc lo st h Q' := by
  obtain ⟨n, o, h1, he, hQ⟩ := hw
  exact ⟨n, o, h1, he, hq o h1 hQ⟩
end WPS
theorem KK_ret {d : Nat} {y z : MI} {pc : Nat} {lo : Lo} {rest : List Value} {Q : Out → HP → Prop} {v : Option Value} {h1 : HP} : KK d y z pc lo rest Q (.inl v) h1 = WP (d + 1) y (pc + 3) lo (v.toList ++ rest) h1 Q := rfl
