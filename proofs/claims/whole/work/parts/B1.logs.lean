/-! ===== logs as lists ===== -/
abbrev enS (S : SI) (i k : Nat) : YE := (S 14 (30 * i + k), S 15 (30 * i + k), S 16 (30 * i + k), S 17 (30 * i + k))
def lgS (S : SI) (i : Nat) : List YE := (List.range (nt (S 12 i))).map (fun k => enS S i k)
def tmS (S : SI) (i : Nat) : Nat := nt (S 9 i)
/-- the term of the entry of a number -/
def tmL (L : List YE) (p : Nat) : Int32 := if p = 0 then 0 else match L[p - 1]? with
  | some e => e.1
  | none => 0
section LOGS
variable {S : SI} {g : YG} {i m l p t : Nat}
theorem lgS_len : (lgS S i).length = nt (S 12 i) := by
  unfold lgS
  rw [List.length_map, List.length_range]
theorem lgS_get {k : Nat} (hk : k < nt (S 12 i)) : (lgS S i)[k]? = some (enS S i k) := by
  unfold lgS
  rw [List.getElem?_map, List.getElem?_range hk]
  rfl
theorem lgS_congr {S' : SI} (h : S' 12 i = S 12 i) (he : ∀ k, k < nt (S 12 i) → enS S' i k = enS S i k) : lgS S' i = lgS S i := by
  unfold lgS
  rw [h]
  apply List.map_congr_left
  intro k hk
  exact he k (List.mem_range.mp hk)
theorem lgS_same {S' : SI} (h12 : S' 12 = S 12) (h14 : S' 14 = S 14) (h15 : S' 15 = S 15) (h16 : S' 16 = S 16) (h17 : S' 17 = S 17) : lgS S' = lgS S := by
  funext i
  unfold lgS enS
  rw [h12, h14, h15, h16, h17]
theorem list_ext {L L' : List YE} (hl : L.length = L'.length) (h : ∀ k, k < L.length → L[k]? = L'[k]?) : L = L' := by
  apply List.ext_getElem?
  intro k
  by_cases c : k < L.length
  · exact h k c
  · rw [List.getElem?_eq_none (by omega), List.getElem?_eq_none (by omega)]
theorem lgS_put {a c s v : Int32} (hl : S 12 m = Int32.ofNat l) (h30 : l < 30) : lgS (putS S m a c s v) m = lgS S m ++ [(a, c, s, v)] := by
  have en : nt (S 12 m) = l := nt_of hl (by omega)
  have e12 : putS S m a c s v 12 m = Int32.ofNat (l + 1) := by
    rw [putS_len, hl, o_addn]
  have en' : nt (putS S m a c s v 12 m) = l + 1 := nt_of e12 (by omega)
  have z1 : [(a, c, s, v)].length = 1 := rfl
  have ll : (lgS S m).length = l := by rw [lgS_len, en]
  refine list_ext ?_ ?_
  · rw [lgS_len, en', List.length_append, ll, z1]
  · intro k hk
    rw [lgS_len, en'] at hk
    rw [lgS_get (by omega)]
    by_cases z : k < l
    · rw [List.getElem?_append_left (by omega), lgS_get (by omega)]
      unfold enS putS
      rw [en]
      simp only [u2_ne (show (14 : Nat) ≠ 12 ∨ 30 * m + k ≠ m from Or.inl (by decide)), u2_ne (show (15 : Nat) ≠ 12 ∨ 30 * m + k ≠ m from Or.inl (by decide)), u2_ne (show (16 : Nat) ≠ 12 ∨ 30 * m + k ≠ m from Or.inl (by decide)), u2_ne (show (17 : Nat) ≠ 12 ∨ 30 * m + k ≠ m from Or.inl (by decide))]
      rw [u2_ne (by omega), u2_ne (by omega), u2_ne (by omega), u2_ne (by omega), u2_ne (by omega), u2_ne (by omega), u2_ne (by omega), u2_ne (by omega), u2_ne (by omega), u2_ne (by omega), u2_ne (by omega), u2_ne (by omega), u2_ne (by omega), u2_ne (by omega), u2_ne (by omega), u2_ne (by omega)]
    · have : k = l := by omega
      subst this
      rw [List.getElem?_append_right (by omega), ll, Nat.sub_self]
      unfold enS putS
      rw [en]
      simp only [u2_ne (show (14 : Nat) ≠ 12 ∨ 30 * m + k ≠ m from Or.inl (by decide)), u2_ne (show (15 : Nat) ≠ 12 ∨ 30 * m + k ≠ m from Or.inl (by decide)), u2_ne (show (16 : Nat) ≠ 12 ∨ 30 * m + k ≠ m from Or.inl (by decide)), u2_ne (show (17 : Nat) ≠ 12 ∨ 30 * m + k ≠ m from Or.inl (by decide))]
      rw [u2_ne (by omega), u2_ne (by omega), u2_ne (by omega), u2_eq, u2_ne (by omega), u2_ne (by omega), u2_eq, u2_ne (by omega), u2_eq, u2_eq]
      rfl
theorem put_other {a c s v : Int32} {r k : Nat} (hl : S 12 m = Int32.ofNat l) (h30 : l < 30) (hi : i ≠ m) (hk : k < 30) (hr : r = 14 ∨ r = 15 ∨ r = 16 ∨ r = 17) : putS S m a c s v r (30 * i + k) = S r (30 * i + k) := by
  have en : nt (S 12 m) = l := nt_of hl (by omega)
  unfold putS
  rw [en]
  have : 30 * i + k ≠ 30 * m + l := by omega
  rw [u2_ne (by omega), u2_ne (by omega), u2_ne (by omega), u2_ne (by omega), u2_ne (by omega)]
theorem put_12 {a c s v : Int32} (hi : i ≠ m) : putS S m a c s v 12 i = S 12 i := by
  unfold putS
  rw [u2_ne (by omega), u2_ne (by omega), u2_ne (by omega), u2_ne (by omega), u2_ne (by omega)]
theorem lgS_put_ne {a c s v : Int32} (hl : S 12 m = Int32.ofNat l) (h30 : l < 30) (hi : i ≠ m) (h : nt (S 12 i) ≤ 30) : lgS (putS S m a c s v) i = lgS S i := by
  refine lgS_congr (put_12 hi) (fun k hk => ?_)
  unfold enS
  rw [put_other hl h30 hi (by omega) (by omega), put_other hl h30 hi (by omega) (by omega), put_other hl h30 hi (by omega) (by omega), put_other hl h30 hi (by omega) (by omega)]
theorem lgS_cut {x : Nat} (hl : S 12 m = Int32.ofNat l) (h30 : l ≤ 30) (hx : x ≤ l) : lgS (cutP S m (Int32.ofNat x)) m = (lgS S m).take x := by
  have en : nt (S 12 m) = l := nt_of hl (by omega)
  have en' : nt (cutP S m (Int32.ofNat x) 12 m) = x := nt_of u2_eq (by omega)
  refine list_ext ?_ ?_
  · rw [lgS_len, en', List.length_take, lgS_len, en]; omega
  · intro k hk
    rw [lgS_len, en'] at hk
    rw [lgS_get (by omega), List.getElem?_take, if_pos hk, lgS_get (by omega)]
    rfl
theorem lgS_cut_ne {x : Int32} (hi : i ≠ m) : lgS (cutP S m x) i = lgS S i := by
  refine lgS_congr ?_ (fun k _ => rfl)
  unfold cutP
  rw [u2_ne (by omega)]
theorem tmL_0 {L : List YE} : tmL L 0 = 0 := if_pos rfl
theorem tmL_some {L : List YE} {k : Nat} {e : YE} (h : L[k]? = some e) : tmL L (k + 1) = e.1 := by
  unfold tmL
  rw [if_neg (by omega), Nat.add_sub_cancel, h]
theorem tmL_none {L : List YE} {k : Nat} (h : L.length ≤ k) : tmL L (k + 1) = 0 := by
  unfold tmL
  rw [if_neg (by omega), Nat.add_sub_cancel, List.getElem?_eq_none h]
theorem tm_lg (hl : S 12 m = Int32.ofNat l) (h30 : l ≤ 30) (hp : p < 1000) : tmAt S m (Int32.ofNat p) = tmL (lgS S m) p := by
  have en : nt (S 12 m) = l := nt_of hl (by omega)
  unfold tmAt
  rw [hl, o_i _ (by omega), o_i _ (by omega)]
  cases p with
  | zero => rw [if_neg (by omega), tmL_0]
  | succ p =>
    by_cases c : p < l
    · rw [if_pos (by omega), tmL_some (lgS_get (by omega))]
      have : (((p + 1 : Nat) : Int) - 1).toNat = p := by omega
      rw [this]
    · rw [if_neg (by omega), tmL_none (by rw [lgS_len, en]; omega)]
/-- the number and term of the last entry -/
theorem tm_last (hl : S 12 m = Int32.ofNat l) (h30 : l ≤ 30) (hok : ∀ e, e ∈ lgS S m → e.1 = Int32.ofNat (yT e)) : tmAt S m (S 12 m) = Int32.ofNat (yla (lgS S m)) := by
  have en : nt (S 12 m) = l := nt_of hl (by omega)
  have ll : (lgS S m).length = l := by rw [lgS_len, en]
  rw [hl, tm_lg hl h30 (by omega)]
  cases l with
  | zero =>
    have : lgS S m = [] := List.length_eq_zero_iff.mp ll
    rw [tmL_0, this]
    rfl
  | succ k =>
    have hg := lgS_get (S := S) (i := m) (k := k) (by omega)
    rw [tmL_some hg]
    have hg' : (lgS S m)[(lgS S m).length - 1]? = some (enS S m k) := by
      rw [ll]
      exact hg
    rw [yla_some hg']
    exact hok _ (List.mem_of_getElem? hg)
/-- good logs with one term at one place are the same up to there -/
theorem yD.match_ {L : List YE} (h : yD g L) (h' : yD g (yL g t)) {e f : YE} (he : L[i]? = some e) (hf : (yL g t)[i]? = some f) (ht : yT e = yT f) : L.take (i + 1) = (yL g t).take (i + 1) := by
  obtain ⟨_, h1⟩ := h i e he
  obtain ⟨_, h2⟩ := h' i f hf
  rw [h1, h2, ht]
theorem putsS_s {w : RW} {k : Nat} : putsS m p w (k + 1) S = (if tmAt (putsS m p w k S) m (Int32.ofNat (p + k + 1)) = w (10 + 4 * k) then putsS m p w k S else putS (cutP (putsS m p w k S) m (Int32.ofNat (p + k))) m (w (10 + 4 * k)) (w (11 + 4 * k)) (w (12 + 4 * k)) (w (13 + 4 * k))) := rfl
theorem take_snoc {L : List YE} {k : Nat} {e : YE} (h : L[k]? = some e) : L.take (k + 1) = L.take k ++ [e] := by
  rw [List.take_succ, h]
  rfl
/-- the log of one that takes entries -/
theorem puts_new {mn : Nat} {w : RW} (H : yD g (lgS S m)) (HG : yD g (yL g t)) (hl : S 12 m = Int32.ofNat l) (h30 : l ≤ 30) (hp : p + mn ≤ (yL g t).length) (hp30 : (yL g t).length ≤ 30) (hw : ∀ k, k < mn → (yL g t)[p + k]? = some (w (10 + 4 * k), w (11 + 4 * k), w (12 + 4 * k), w (13 + 4 * k))) (hok : ∀ e, e ∈ yL g t → e.1 = Int32.ofNat (yT e) ∧ 1 ≤ yT e) (hok' : ∀ e, e ∈ lgS S m → e.1 = Int32.ofNat (yT e)) (hpre : (yL g t).take p <+: lgS S m) : ∀ k, k ≤ mn → (∃ l', putsS m p w k S 12 m = Int32.ofNat l' ∧ l' ≤ 30) ∧ yNew g t (p + k) (lgS S m) (lgS (putsS m p w k S) m) := by
  intro k
  induction k with
  | zero => exact fun _ => ⟨⟨l, hl, h30⟩, Or.inl ⟨rfl, hpre⟩⟩
  | succ k ih =>
    intro hk
    obtain ⟨⟨l', hl', h30'⟩, hN⟩ := ih (by omega)
    have hwk := hw k (by omega)
    have hmem := List.mem_of_getElem? hwk
    obtain ⟨o1, o2⟩ := hok _ hmem
    have hgk : p + k < (yL g t).length := by omega
    have en' : nt (putsS m p w k S 12 m) = l' := nt_of hl' (by omega)
    have ll' : (lgS (putsS m p w k S) m).length = l' := by rw [lgS_len, en']
    have w0 : ¬ w (10 + 4 * k) = 0 := by
      intro z
      have z2 : yT (w (10 + 4 * k), w (11 + 4 * k), w (12 + 4 * k), w (13 + 4 * k)) = 0 := by
        unfold yT
        show nt (w (10 + 4 * k)) = 0
        rw [z]; rfl
      omega
    have snoc := take_snoc hwk
    have etk : ((yL g t).take (p + k)).length = p + k := by rw [List.length_take]; omega
    rw [putsS_s, tm_lg hl' h30' (by omega)]
    rcases hN with ⟨n1, n2⟩ | ⟨n1, n2⟩
    · rw [n1] at ll' ⊢
      have hlen : p + k ≤ l' := by
        have := n2.length_le
        omega
      by_cases c : tmL (lgS S m) (p + k + 1) = w (10 + 4 * k)
      · rw [if_pos c]
        refine ⟨⟨l', hl', h30'⟩, Or.inl ⟨n1, ?_⟩⟩
        have hlt : p + k < (lgS S m).length := by
          apply Classical.byContradiction
          intro z
          rw [tmL_none (by omega)] at c
          exact w0 c.symm
        have hge : (lgS S m)[p + k]? = some (lgS S m)[p + k] := List.getElem?_eq_getElem hlt
        rw [tmL_some hge] at c
        have et : yT (lgS S m)[p + k] = yT (w (10 + 4 * k), w (11 + 4 * k), w (12 + 4 * k), w (13 + 4 * k)) := by
          unfold yT
          rw [c]
        rw [show p + (k + 1) = p + k + 1 from rfl, ← H.match_ HG hge hwk et]
        exact List.take_prefix _ _
      · rw [if_neg c]
        have e1 : lgS (cutP (putsS m p w k S) m (Int32.ofNat (p + k))) m = (yL g t).take (p + k) := by
          rw [lgS_cut hl' h30' hlen, n1, ypre_take n2 (by omega), List.take_of_length_le (by omega)]
        have e12 : cutP (putsS m p w k S) m (Int32.ofNat (p + k)) 12 m = Int32.ofNat (p + k) := u2_eq
        refine ⟨⟨p + k + 1, ?_, by omega⟩, Or.inr ⟨?_, fun j hj hjp => ?_⟩⟩
        · rw [putS_len, e12, o_addn]
        · rw [lgS_put e12 (by omega), e1, ← snoc]
          rfl
        · apply Classical.byContradiction
          intro z
          apply c
          have hlt : p + k < ((yL g t).take j).length := by rw [List.length_take]; omega
          have h1 : ((yL g t).take j)[p + k]? = some (w (10 + 4 * k), w (11 + 4 * k), w (12 + 4 * k), w (13 + 4 * k)) := by
            rw [List.getElem?_take, if_pos (by omega)]
            exact hwk
          rw [tmL_some (ypre_get hjp h1)]
    · have e0 : l' = p + k := by rw [← ll', n1, etk]
      have c : ¬ tmL (lgS (putsS m p w k S) m) (p + k + 1) = w (10 + 4 * k) := by
        rw [tmL_none (by omega)]
        exact fun z => w0 z.symm
      rw [if_neg c]
      have e1 : lgS (cutP (putsS m p w k S) m (Int32.ofNat (p + k))) m = (yL g t).take (p + k) := by
        rw [lgS_cut hl' h30' (by omega), n1, List.take_take, Nat.min_self]
      have e12 : cutP (putsS m p w k S) m (Int32.ofNat (p + k)) 12 m = Int32.ofNat (p + k) := u2_eq
      refine ⟨⟨p + k + 1, ?_, by omega⟩, Or.inr ⟨?_, fun j hj hjp => ?_⟩⟩
      · rw [putS_len, e12, o_addn]
      · rw [lgS_put e12 (by omega), e1, ← snoc]
        rfl
      · have := n2 j hj hjp
        omega
/-- the other logs stay -/
theorem puts_other {w : RW} {mn r : Nat} (hpm : p + mn ≤ 30) (hi : i ≠ m) (hr : r = 14 ∨ r = 15 ∨ r = 16 ∨ r = 17) : ∀ k, k ≤ mn → (putsS m p w k S 12 i = S 12 i ∧ ∀ x, x < 30 → putsS m p w k S r (30 * i + x) = S r (30 * i + x)) := by
  intro k
  induction k with
  | zero => exact fun _ => ⟨rfl, fun _ _ => rfl⟩
  | succ k ih =>
    intro hk
    obtain ⟨i1, i2⟩ := ih (by omega)
    rw [putsS_s]
    split
    · exact ⟨i1, i2⟩
    · have e12 : cutP (putsS m p w k S) m (Int32.ofNat (p + k)) 12 m = Int32.ofNat (p + k) := u2_eq
      refine ⟨?_, fun x hx => ?_⟩
      · rw [put_12 hi]
        unfold cutP
        rw [u2_ne (by omega)]
        exact i1
      · rw [put_other e12 (by omega) hi hx hr]
        unfold cutP
        rw [u2_ne (by omega)]
        exact i2 x hx
theorem lgS_puts_ne {w : RW} {mn : Nat} (hpm : p + mn ≤ 30) (hi : i ≠ m) (h : nt (S 12 i) ≤ 30) : lgS (putsS m p w mn S) i = lgS S i := by
  refine lgS_congr (puts_other (r := 14) hpm hi (by omega) mn (Nat.le_refl _)).1 (fun k hk => ?_)
  unfold enS
  rw [(puts_other (r := 14) hpm hi (by omega) mn (Nat.le_refl _)).2 k (by omega), (puts_other (r := 15) hpm hi (by omega) mn (Nat.le_refl _)).2 k (by omega), (puts_other (r := 16) hpm hi (by omega) mn (Nat.le_refl _)).2 k (by omega), (puts_other (r := 17) hpm hi (by omega) mn (Nat.le_refl _)).2 k (by omega)]
end LOGS
