/-! ===== orders: what the class finds is an order ===== -/
def OKc (S : SI) (na : Nat) : List Nat → List (Option Nat) → Int32 → Int32 → Int32 → Int32 → Prop
  | [], [], _, _, _, _ => True
  | r :: rs, none :: ch, _, v, fe, pl => v = S 44 r ∧ dueP S na (S 45 r) pl ∧ OKc S na rs ch (S 45 r) v fe pl
  | r :: rs, some i :: ch, ah, _, fe, pl => (i < na ∧ S 44 i = S 44 r ∧ fitB S i ah (S 45 r) = true ∧ tb fe i = false ∧ dueP S na (S 45 r) (pl ||| aofS S i ah (S 45 r) na)) ∧ OKc S na rs ch (S 45 r) (S 44 r) (fe ||| bitI (Int32.ofNat i)) (pl ||| aofS S i ah (S 45 r) na)
  | _, _, _, _, _, _ => False
section ORD3
variable {S : SI} {na : Nat}
theorem ok_of_feed (hna : na ≤ 14) : ∀ (rs : List Nat) (ah v fe pl : Int32), feedB S na rs ah v fe pl = true → ∃ ch, OKc S na rs ch ah v fe pl := by
  intro rs
  induction rs with
  | nil => intro ah v fe pl _; exact ⟨[], trivial⟩
  | cons r rs ih =>
    intro ah v fe pl h
    rw [feed_s, Bool.or_eq_true] at h
    rcases h with h | h
    · rw [Bool.and_eq_true, decide_eq_true_iff, due_iff hna] at h
      obtain ⟨ch, hch⟩ := ih _ _ _ _ h.2
      exact ⟨none :: ch, h.1.1, h.1.2, hch⟩
    · obtain ⟨i, _, hi, hf⟩ := (anyF_iff na 0).mp h
      unfold feedI at hf
      rw [Bool.and_eq_true, Bool.and_eq_true, Bool.and_eq_true, Bool.and_eq_true, decide_eq_true_iff, decide_eq_true_iff, decide_eq_true_iff, due_iff hna, tb_bit0 (by omega)] at hf
      obtain ⟨ch, hch⟩ := ih _ _ _ _ hf.2.2
      exact ⟨some i :: ch, ⟨by omega, hf.1.1.1, hf.1.1.2, hf.1.2, hf.2.1⟩, hch⟩
theorem not_ahead_le {i : Nat} {s t : Int32} (h : ¬ aheadB S i t = true) (hst : ¬ t < s) : ¬ aheadB S i s = true := by
  intro z
  obtain ⟨z1, z2⟩ := ahead_iff.mp z
  refine h (ahead_iff.mpr ⟨z1, ?_⟩)
  rw [Int32.lt_iff_toInt_lt] at z2 hst ⊢
  omega
theorem ok_feeders (hna : na ≤ 14) : ∀ (rs : List Nat) (ch : List (Option Nat)) (ah v fe pl : Int32), OKc S na rs ch ah v fe pl → rs.Pairwise (fun a b => ¬ S 45 b < S 45 a) → (∀ r, r ∈ rs → ¬ S 45 r < ah) → ∀ i, some i ∈ ch → i < na ∧ S 41 i = 1 ∧ tb fe i = false ∧ ¬ aheadB S i ah = true := by
  intro rs
  induction rs with
  | nil =>
    intro ch ah v fe pl h _ _ i hi
    cases ch with
    | nil => exact absurd hi List.not_mem_nil
    | cons c ch => exact absurd h id
  | cons r rs ih =>
    intro ch ah v fe pl h hso hah i hi
    have hso' := List.pairwise_cons.mp hso
    have har := hah r (List.mem_cons_self ..)
    cases ch with
    | nil => exact absurd h id
    | cons c ch =>
      cases c with
      | none =>
        obtain ⟨_, _, h3⟩ := h
        rcases List.mem_cons.mp hi with u | u
        · exact absurd u (by simp)
        · obtain ⟨q1, q2, q3, q4⟩ := ih ch _ _ _ _ h3 hso'.2 hso'.1 i u
          exact ⟨q1, q2, q3, not_ahead_le q4 har⟩
      | some k =>
        obtain ⟨⟨g1, g2, g3, g4, g5⟩, h3⟩ := h
        rcases List.mem_cons.mp hi with u | u
        · have u := Option.some.inj u
          subst u
          obtain ⟨f1, f2⟩ := fit_iff.mp g3
          exact ⟨g1, f1.1, g4, f2⟩
        · obtain ⟨q1, q2, q3, q4⟩ := ih ch _ _ _ _ h3 hso'.2 hso'.1 i u
          rw [tb_or, Bool.or_eq_false_iff] at q3
          exact ⟨q1, q2, q3.1, not_ahead_le q4 har⟩
theorem rch_step {p w b : Nat} (h : Rch S na p w) (hs : stpO S na p w b) : Rch S na (p ||| 2 ^ b) (nxW S w b) := by
  obtain ⟨L, hL⟩ := h
  exact ⟨b :: L, p, w, hL, hs, rfl, rfl⟩
theorem add_all {A : Nat → Bool} {p w : Nat} (hr : Rch S na p w) (hA : ∀ j, j < na → A j = true → p.testBit j = false → S 41 j = 1 ∧ ∀ b, b < na → p.testBit b = true ∨ (b < j ∧ A b = true) ∨ S 46 b = -1 ∨ ¬ S 46 b < S 45 j) : ∀ n, n ≤ na → ∃ p' w', Rch S na p' w' ∧ ∀ x, p'.testBit x = (p.testBit x || (decide (x < n) && A x)) := by
  intro n
  induction n with
  | zero =>
    intro _
    refine ⟨p, w, hr, fun x => ?_⟩
    rw [decide_eq_false (Nat.not_lt_zero x), Bool.false_and, Bool.or_false]
  | succ n ih =>
    intro hn
    obtain ⟨p', w', h1, h2⟩ := ih (by omega)
    have same : A n = false ∨ p.testBit n = true → ∀ x, (p.testBit x || (decide (x < n) && A x)) = (p.testBit x || (decide (x < n + 1) && A x)) := by
      intro hc x
      by_cases z : x = n
      · subst z
        rcases hc with q | q
        · rw [q, Bool.and_false, Bool.and_false]
        · rw [q, Bool.true_or, Bool.true_or]
      · have : decide (x < n) = decide (x < n + 1) := decide_eq_decide.mpr (by omega)
        rw [this]
    by_cases c : A n = true
    · by_cases c2 : p.testBit n = true
      · exact ⟨p', w', h1, fun x => (h2 x).trans (same (Or.inr c2) x)⟩
      · have c2' : p.testBit n = false := by
          cases z : p.testBit n
          · rfl
          · exact absurd z c2
        obtain ⟨hw, ho⟩ := hA n (by omega) c c2'
        refine ⟨p' ||| 2 ^ n, nxW S w' n, rch_step h1 ⟨by omega, ?_, ?_, fun z => by rw [hw] at z; exact absurd z (by decide)⟩, fun x => ?_⟩
        · rw [h2, c2', decide_eq_false (Nat.lt_irrefl n)]; rfl
        · rw [mayB_iff]
          intro b hb
          rcases ho b hb with q | q | q
          · left; rw [h2, q, Bool.true_or]
          · left; rw [h2, q.2, decide_eq_true q.1, Bool.and_true, Bool.or_true]
          · exact Or.inr q
        · rw [or_bit, h2]
          by_cases z : n = x
          · subst z
            rw [c, decide_eq_true rfl, decide_eq_true (Nat.lt_succ_self n)]; simp
          · have : decide (x < n) = decide (x < n + 1) := decide_eq_decide.mpr (by omega)
            rw [this, decide_eq_false z, Bool.or_false]
    · have c' : A n = false := by
        cases z : A n
        · rfl
        · exact absurd z c
      exact ⟨p', w', h1, fun x => (h2 x).trans (same (Or.inl c') x)⟩
theorem ordR_of_ok (H : HIo S na) : ∀ (rs : List Nat) (ch : List (Option Nat)) (p w : Nat) (ah v fe pl : Int32), OKc S na rs ch ah v fe pl → Rch S na p w → valW S w = v → rs.Pairwise (· < ·) → (∀ r, r ∈ rs ↔ r < na ∧ ¬ S 41 r = 1 ∧ p.testBit r = false) → (∀ r, r ∈ rs → ¬ S 45 r < ah) → (∀ j, j < na → S 41 j = 1 → tb pl j = true → p.testBit j = true ∨ some j ∈ ch) → (∀ i, some i ∈ ch → p.testBit i = false) → ordR S na := by
  obtain ⟨hna, hz, h1, hmono, hrd, hwr⟩ := H
  have lt_of : ∀ a b, a < na → b < na → S 45 a < S 45 b → a < b := by
    intro a b ha hb hab
    apply Classical.byContradiction
    intro c
    by_cases z : a = b
    · subst z; rw [Int32.lt_iff_toInt_lt] at hab; omega
    · have := hmono b a (by omega) ha
      rw [Int32.lt_iff_toInt_lt] at hab this; omega
  have end_lt : ∀ b j, b < na → j < na → S 46 b ≠ -1 → S 46 b < S 45 j → b < j := by
    intro b j hb hj hb1 hb2
    refine lt_of b j hb hj ?_
    rcases hz b hb with u | u
    · rw [hrd b hb u] at hb2; exact hb2
    · rcases hwr b hb u with y | y
      · exact absurd y hb1
      · rw [Int32.lt_iff_toInt_lt] at hb2 y ⊢; omega
  intro rs
  induction rs with
  | nil =>
    intro ch p w ah v fe pl _ hr _ _ hmem _ _ _
    have rin : ∀ b, b < na → ¬ S 41 b = 1 → p.testBit b = true := by
      intro b hb hb1
      cases z : p.testBit b
      · exact absurd ((hmem b).mpr ⟨hb, hb1, z⟩) List.not_mem_nil
      · rfl
    obtain ⟨p', w', q1, q2⟩ := add_all (A := fun j => decide (S 41 j = 1 ∧ S 46 j ≠ -1)) hr (by
      intro j hj hA _
      have hA := of_decide_eq_true hA
      refine ⟨hA.1, fun b hb => ?_⟩
      by_cases c : S 41 b = 1
      · by_cases c2 : S 46 b = -1
        · exact Or.inr (Or.inr (Or.inl c2))
        · by_cases c3 : S 46 b < S 45 j
          · exact Or.inr (Or.inl ⟨end_lt b j hb hj c2 c3, decide_eq_true ⟨c, c2⟩⟩)
          · exact Or.inr (Or.inr (Or.inr c3))
      · exact Or.inl (rin b hb c)) na (Nat.le_refl _)
    refine ⟨p', w', q1, fun b hb hb1 => ?_⟩
    rw [q2]
    by_cases c : S 41 b = 1
    · have : decide (S 41 b = 1 ∧ S 46 b ≠ -1) = true := decide_eq_true ⟨c, hb1⟩
      rw [this, decide_eq_true hb, Bool.and_true, Bool.or_true]
    · rw [rin b hb c, Bool.true_or]
  | cons r rs ih =>
    intro ch p w ah v fe pl hok hr hv hso hmem hah hpl hfe
    obtain ⟨hrn, hrw, hrp⟩ := (hmem r).mp (List.mem_cons_self ..)
    have hr0 := (hz r hrn).resolve_right hrw
    have her := hrd r hrn hr0
    have hso' := List.pairwise_cons.mp hso
    have rsn : ∀ x, x ∈ r :: rs → x < na := fun x hx => ((hmem x).mp hx).1
    have stepso : (r :: rs).Pairwise (fun a b => ¬ S 45 b < S 45 a) := by
      refine List.Pairwise.imp_of_mem ?_ hso
      intro a b ha hb hab
      have := hmono a b hab (rsn b hb)
      rw [Int32.lt_iff_toInt_lt] at this ⊢
      omega
    have stepso' := List.pairwise_cons.mp stepso
    -- reads that are not in the set are not answered ahead of r
    have rds_ok : ∀ b, b < na → ¬ S 41 b = 1 → p.testBit b = false → ¬ S 46 b < S 45 r := by
      intro b hb hb1 hb2
      rw [hrd b hb ((hz b hb).resolve_right hb1)]
      rcases List.mem_cons.mp ((hmem b).mpr ⟨hb, hb1, hb2⟩) with u | u
      · subst u; rw [Int32.lt_iff_toInt_lt]; omega
      · exact stepso'.1 b u
    cases ch with
    | nil => exact absurd hok id
    | cons c ch =>
      have memr : ∀ (p3 : Nat), (∀ x, ¬ S 41 x = 1 → p3.testBit x = (p.testBit x || decide (r = x))) → ∀ x, x ∈ rs ↔ x < na ∧ ¬ S 41 x = 1 ∧ p3.testBit x = false := by
        intro p3 hp3 x
        constructor
        · intro hx
          obtain ⟨q1, q2, q3⟩ := (hmem x).mp (List.mem_cons_of_mem _ hx)
          have := hso'.1 x hx
          exact ⟨q1, q2, by rw [hp3 x q2, q3, Bool.false_or]; exact decide_eq_false (by omega)⟩
        · rintro ⟨q1, q2, q3⟩
          rw [hp3 x q2, Bool.or_eq_false_iff] at q3
          rcases List.mem_cons.mp ((hmem x).mpr ⟨q1, q2, q3.1⟩) with u | u
          · exact absurd u.symm (of_decide_eq_false q3.2)
          · exact u
      cases c with
      | none =>
        obtain ⟨k1, k2, k3⟩ := hok
        have feed := ok_feeders hna rs ch _ _ _ _ k3 stepso'.2 stepso'.1
        have hst : stpO S na p w r := by
          refine ⟨hrn, hrp, ?_, fun _ => ?_⟩
          · rw [mayB_iff]
            intro b hb
            cases z : p.testBit b
            · refine Or.inr ?_
              by_cases c1 : S 41 b = 1
              · by_cases c2 : S 46 b = -1
                · exact Or.inl c2
                · refine Or.inr (fun c3 => ?_)
                  have ah3 : aheadB S b (S 45 r) = true := ahead_iff.mpr ⟨c2, c3⟩
                  rcases hpl b hb c1 (k2 b hb c1 ah3) with u | u
                  · rw [z] at u; exact absurd u (by decide)
                  · rcases List.mem_cons.mp u with u | u
                    · exact absurd u (by simp)
                    · exact (feed b u).2.2.2 ah3
              · exact Or.inr (rds_ok b hb c1 z)
            · exact Or.inl rfl
          · rw [hv, k1]
        have hnx : nxW S w r = w := if_pos hr0
        have hr' := rch_step hr hst
        rw [hnx] at hr'
        refine ih ch (p ||| 2 ^ r) w (S 45 r) v fe pl k3 hr' hv hso'.2 (memr _ (fun x _ => or_bit)) stepso'.1 (fun j hj hj1 hj2 => ?_) (fun i hi => ?_)
        · rcases hpl j hj hj1 hj2 with u | u
          · left; rw [or_bit, u, Bool.true_or]
          · rcases List.mem_cons.mp u with u | u
            · exact absurd u (by simp)
            · exact Or.inr u
        · rw [or_bit, hfe i (List.mem_cons_of_mem _ hi), Bool.false_or]
          exact decide_eq_false (fun z => hrw (by rw [z]; exact (feed i hi).2.1))
      | some i =>
        obtain ⟨⟨g1, g2, g3, g4, g5⟩, k3⟩ := hok
        have feed := ok_feeders hna rs ch _ _ _ _ k3 stepso'.2 stepso'.1
        obtain ⟨⟨f1, f2⟩, f3⟩ := fit_iff.mp g3
        have hpi : p.testBit i = false := hfe i (List.mem_cons_self ..)
        have aof : ∀ j, j < na → (tb (aofS S i ah (S 45 r) na) j = true ↔ j < na ∧ fitB S j ah (S 45 r) = true ∧ aheadB S i (S 45 j) = false) := fun j hj => tb_aof (by omega) na hna
        have key : ∀ b, b < na → p.testBit b = false → S 46 b ≠ -1 → S 46 b < S 45 r → S 41 b = 1 ∧ (b = i ∨ (tb (aofS S i ah (S 45 r) na) b = true ∧ b ≠ i ∧ some b ∉ ch)) := by
          intro b hb hbp hb1 hb2
          by_cases c1 : S 41 b = 1
          · refine ⟨c1, ?_⟩
            have ah3 : aheadB S b (S 45 r) = true := ahead_iff.mpr ⟨hb1, hb2⟩
            have nch : some b ∉ ch := fun u => (feed b u).2.2.2 ah3
            by_cases c2 : b = i
            · exact Or.inl c2
            · have t := g5 b hb c1 ah3
              rw [tb_or, Bool.or_eq_true] at t
              rcases t with t | t
              · rcases hpl b hb c1 t with u | u
                · rw [hbp] at u; exact absurd u (by decide)
                · rcases List.mem_cons.mp u with u | u
                  · exact absurd (Option.some.inj u) c2
                  · exact absurd u nch
              · exact Or.inr ⟨t, c2, nch⟩
          · exact absurd hb2 (rds_ok b hb c1 hbp)
        obtain ⟨p1, w1, q1, q2⟩ := add_all (A := fun j => decide (tb (aofS S i ah (S 45 r) na) j = true ∧ j ≠ i ∧ some j ∉ ch)) hr (by
          intro j hj hA hjp
          obtain ⟨a1, a2, a3⟩ := of_decide_eq_true hA
          obtain ⟨_, a4, a5⟩ := (aof j hj).mp a1
          obtain ⟨⟨b1, b2⟩, b3⟩ := fit_iff.mp a4
          refine ⟨b1, fun b hb => ?_⟩
          cases z : p.testBit b
          · refine Or.inr ?_
            by_cases c2 : S 46 b = -1
            · exact Or.inr (Or.inl c2)
            · by_cases c3 : S 46 b < S 45 j
              · have c4 : S 46 b < S 45 r := by
                  rw [Int32.lt_iff_toInt_lt] at c3 b2 ⊢
                  omega
                rcases (key b hb z c2 c4).2 with u | u
                · subst u
                  rw [ahead_iff.mpr ⟨c2, c3⟩] at a5
                  exact absurd a5 (by decide)
                · exact Or.inl ⟨end_lt b j hb hj c2 c3, decide_eq_true u⟩
              · exact Or.inr (Or.inr c3)
          · exact Or.inl rfl) na (Nat.le_refl _)
        have q2' : ∀ x, x < na → p1.testBit x = (p.testBit x || decide (tb (aofS S i ah (S 45 r) na) x = true ∧ x ≠ i ∧ some x ∉ ch)) := by
          intro x hx
          rw [q2, decide_eq_true hx, Bool.true_and]
        have st1 : stpO S na p1 w1 i := by
          refine ⟨g1, ?_, ?_, fun z => by rw [f1] at z; exact absurd z (by decide)⟩
          · rw [q2' i g1, hpi, Bool.false_or]
            exact decide_eq_false (fun z => z.2.1 rfl)
          · rw [mayB_iff]
            intro b hb
            by_cases c2 : S 46 b = -1
            · exact Or.inr (Or.inl c2)
            · by_cases c3 : S 46 b < S 45 i
              · left
                rw [q2' b hb, Bool.or_eq_true]
                cases z : p.testBit b
                · have c4 : S 46 b < S 45 r := by
                    rw [Int32.lt_iff_toInt_lt] at c3 f2 ⊢
                    omega
                  rcases (key b hb z c2 c4).2 with u | u
                  · subst u
                    rcases hwr b hb f1 with y | y
                    · exact absurd y c2
                    · exact absurd c3 y
                  · exact Or.inr (decide_eq_true u)
                · exact Or.inl rfl
              · exact Or.inr (Or.inr c3)
        have r1 := rch_step q1 st1
        have n1 : nxW S w1 i = i := if_neg (by rw [f1]; decide)
        rw [n1] at r1
        have st2 : stpO S na (p1 ||| 2 ^ i) i r := by
          refine ⟨hrn, ?_, ?_, fun _ => ?_⟩
          · rw [or_bit, q2' r hrn, hrp, Bool.false_or, Bool.or_eq_false_iff]
            constructor
            · refine decide_eq_false (fun z => ?_)
              obtain ⟨_, a4, _⟩ := (aof r hrn).mp z.1
              exact hrw (fit_iff.mp a4).1.1
            · exact decide_eq_false (fun z => hrw (by rw [← z]; exact f1))
          · rw [mayB_iff]
            intro b hb
            by_cases c2 : S 46 b = -1
            · exact Or.inr (Or.inl c2)
            · by_cases c3 : S 46 b < S 45 r
              · left
                rw [or_bit, q2' b hb, Bool.or_eq_true, Bool.or_eq_true]
                cases z : p.testBit b
                · rcases (key b hb z c2 c3).2 with u | u
                  · exact Or.inr (decide_eq_true u.symm)
                  · exact Or.inl (Or.inr (decide_eq_true u))
                · exact Or.inl (Or.inl rfl)
              · exact Or.inr (Or.inr c3)
          · have : valW S i = S 44 i := if_neg (by omega)
            rw [this, g2]
        have r2 := rch_step r1 st2
        have n2 : nxW S i r = i := if_pos hr0
        rw [n2] at r2
        have vi : valW S i = S 44 r := by
          have : valW S i = S 44 i := if_neg (by omega)
          rw [this, g2]
        have p3 : ∀ x, x < na → (p1 ||| 2 ^ i ||| 2 ^ r).testBit x = (p.testBit x || decide (tb (aofS S i ah (S 45 r) na) x = true ∧ x ≠ i ∧ some x ∉ ch) || decide (i = x) || decide (r = x)) := by
          intro x hx
          rw [or_bit, or_bit, q2' x hx]
        refine ih ch (p1 ||| 2 ^ i ||| 2 ^ r) i (S 45 r) (S 44 r) _ _ k3 r2 vi hso'.2 ?_ stepso'.1 (fun j hj hj1 hj2 => ?_) (fun x hx => ?_)
        · intro x
          constructor
          · intro hx
            obtain ⟨y1, y2, y3⟩ := (hmem x).mp (List.mem_cons_of_mem _ hx)
            have hlt := hso'.1 x hx
            refine ⟨y1, y2, ?_⟩
            rw [p3 x y1, y3, Bool.false_or, Bool.or_eq_false_iff, Bool.or_eq_false_iff]
            refine ⟨⟨decide_eq_false (fun z => ?_), decide_eq_false (fun z => y2 (by rw [← z]; exact f1))⟩, decide_eq_false (by omega)⟩
            exact y2 (fit_iff.mp ((aof x y1).mp z.1).2.1).1.1
          · rintro ⟨y1, y2, y3⟩
            rw [p3 x y1, Bool.or_eq_false_iff, Bool.or_eq_false_iff, Bool.or_eq_false_iff] at y3
            rcases List.mem_cons.mp ((hmem x).mpr ⟨y1, y2, y3.1.1.1⟩) with u | u
            · exact absurd u.symm (of_decide_eq_false y3.2)
            · exact u
        · rw [p3 j hj]
          by_cases c1 : some j ∈ ch
          · exact Or.inr c1
          · left
            by_cases c2 : i = j
            · rw [decide_eq_true c2, Bool.or_true, Bool.true_or]
            · rw [tb_or, Bool.or_eq_true] at hj2
              rcases hj2 with t | t
              · rcases hpl j hj hj1 t with u | u
                · rw [u, Bool.true_or, Bool.true_or, Bool.true_or]
                · rcases List.mem_cons.mp u with u | u
                  · exact absurd (Option.some.inj u).symm c2
                  · exact absurd u c1
              · have : decide (tb (aofS S i ah (S 45 r) na) j = true ∧ j ≠ i ∧ some j ∉ ch) = true := decide_eq_true ⟨t, fun z => c2 z.symm, c1⟩
                rw [this, Bool.or_true, Bool.true_or, Bool.true_or]
        · obtain ⟨y1, y2, y3, y4⟩ := feed x hx
          rw [p3 x y1, hfe x (List.mem_cons_of_mem _ hx), Bool.false_or, Bool.or_eq_false_iff, Bool.or_eq_false_iff]
          refine ⟨⟨decide_eq_false (fun z => z.2.2 hx), decide_eq_false (fun z => ?_)⟩, decide_eq_false (fun z => hrw (by rw [z]; exact y2))⟩
          subst z
          rw [tb_or, tb_bitI (by omega) (by omega), decide_eq_true rfl, Bool.or_true] at y3
          exact absurd y3 (by decide)
theorem ordR_of_B (H : HIo S na) (h : ordB S na = true) : ordR S na := by
  unfold ordB at h
  obtain ⟨ch, hch⟩ := ok_of_feed H.1 _ _ _ _ _ h
  have z : ∀ x, Nat.testBit 0 x = false := fun x => Nat.zero_testBit x
  refine ordR_of_ok H _ ch 0 14 0 0 0 0 hch ⟨[], rfl, rfl⟩ rfl (rds_sorted na) (fun r => ?_) (fun r hr => ?_) (fun j _ _ hj => ?_) (fun i _ => z i)
  · rw [rds_mem, z]
    exact ⟨fun q => ⟨q.1, q.2, rfl⟩, fun q => ⟨q.1, q.2.1⟩⟩
  · have := H.2.2.1 r ((rds_mem na).mp hr).1
    rw [Int32.lt_iff_toInt_lt, i_zero]
    omega
  · rw [tb_0] at hj; exact absurd hj (by decide)
/-- class and reference find the same -/
theorem ord_iff (H : HIo S na) : ordB S na = true ↔ ordR S na := ⟨ordR_of_B H, ordB_of_R H⟩
end ORD3
