/-! ===== orders: the class's way and the reference's ===== -/
def HIo (S : SI) (na : Nat) : Prop := na ≤ 14 ∧ (∀ a, a < na → S 41 a = 0 ∨ S 41 a = 1) ∧ (∀ a, a < na → 1 ≤ (S 45 a).toInt) ∧ (∀ a b, a < b → b < na → S 45 a < S 45 b) ∧ (∀ a, a < na → S 41 a = 0 → S 46 a = S 45 a) ∧ (∀ a, a < na → S 41 a = 1 → S 46 a = -1 ∨ ¬ S 46 a < S 45 a)
theorem anyF_iff {f : Nat → Bool} : ∀ (m j : Nat), anyF f j m = true ↔ ∃ i, j ≤ i ∧ i < j + m ∧ f i = true := by
  intro m
  induction m with
  | zero =>
    intro j
    constructor
    · intro h; exact absurd (show false = true from h) (by decide)
    · rintro ⟨i, h1, h2, _⟩; omega
  | succ m ih =>
    intro j
    rw [anyF_succ, Bool.or_eq_true, ih]
    constructor
    · rintro (h | ⟨i, h1, h2, h3⟩)
      · exact ⟨j, Nat.le_refl _, by omega, h⟩
      · exact ⟨i, by omega, by omega, h3⟩
    · rintro ⟨i, h1, h2, h3⟩
      by_cases c : i = j
      · subst c; exact Or.inl h3
      · exact Or.inr ⟨i, by omega, by omega, h3⟩
section ORD2
variable {S : SI} {na : Nat}
theorem mayB_iff {p a : Nat} : ∀ n, mayB S p a n = true ↔ ∀ b, b < n → p.testBit b = true ∨ S 46 b = -1 ∨ ¬ S 46 b < S 45 a := by
  intro n
  induction n with
  | zero => exact ⟨fun _ b hb => absurd hb (Nat.not_lt_zero b), fun _ => rfl⟩
  | succ n ih =>
    rw [mayB_s, Bool.and_eq_true, ih]
    constructor
    · rintro ⟨h1, h2⟩ b hb
      by_cases c : b = n
      · subst c
        rw [Bool.or_eq_true, Bool.or_eq_true] at h2
        rcases h2 with (h2 | h2) | h2
        · exact Or.inl h2
        · exact Or.inr (Or.inl (of_decide_eq_true h2))
        · refine Or.inr (Or.inr ?_)
          rw [Bool.not_eq_true', decide_eq_false_iff_not] at h2
          exact h2
      · exact h1 b (by omega)
    · intro h
      refine ⟨fun b hb => h b (by omega), ?_⟩
      rw [Bool.or_eq_true, Bool.or_eq_true]
      rcases h n (by omega) with q | q | q
      · exact Or.inl (Or.inl q)
      · exact Or.inl (Or.inr (decide_eq_true q))
      · refine Or.inr ?_
        rw [Bool.not_eq_true', decide_eq_false_iff_not]
        exact q
theorem ahead_iff {a : Nat} {s : Int32} : aheadB S a s = true ↔ S 46 a ≠ -1 ∧ S 46 a < s := by
  unfold aheadB
  exact decide_eq_true_iff
theorem fit_iff {a : Nat} {r s : Int32} : fitB S a r s = true ↔ (S 41 a = 1 ∧ S 45 a < s) ∧ ¬ aheadB S a r = true := by
  unfold fitB
  rw [Bool.and_eq_true, decide_eq_true_iff, Bool.not_eq_true', Bool.not_eq_true]
theorem tb_due {s : Int32} {i : Nat} (hi : i < 32) : ∀ n, n ≤ 14 → (tb (dueS S s n) i = true ↔ i < n ∧ S 41 i = 1 ∧ aheadB S i s = true) := by
  intro n
  induction n with
  | zero =>
    intro _
    unfold dueS
    rw [tb_0]
    exact ⟨fun h => absurd h (by decide), fun h => absurd h.1 (Nat.not_lt_zero i)⟩
  | succ n ih =>
    intro hn
    unfold dueS
    have ih := ih (by omega)
    split
    · rename_i c
      rw [tb_or, Bool.or_eq_true, ih, tb_bitI (by omega) hi, decide_eq_true_iff]
      constructor
      · rintro (h | h)
        · exact ⟨by omega, h.2⟩
        · subst h; exact ⟨by omega, c⟩
      · intro h
        by_cases z : n = i
        · exact Or.inr z
        · exact Or.inl ⟨by omega, h.2⟩
    · rename_i c
      rw [ih]
      constructor
      · intro h; exact ⟨by omega, h.2⟩
      · intro h
        refine ⟨?_, h.2⟩
        by_cases z : n = i
        · subst z; exact absurd h.2 c
        · omega
theorem tb_aof {a : Nat} {r s : Int32} {i : Nat} (hi : i < 32) : ∀ n, n ≤ 14 → (tb (aofS S a r s n) i = true ↔ i < n ∧ fitB S i r s = true ∧ aheadB S a (S 45 i) = false) := by
  intro n
  induction n with
  | zero =>
    intro _
    unfold aofS
    rw [tb_0]
    exact ⟨fun h => absurd h (by decide), fun h => absurd h.1 (Nat.not_lt_zero i)⟩
  | succ n ih =>
    intro hn
    unfold aofS
    have ih := ih (by omega)
    split
    · rename_i c
      rw [tb_or, Bool.or_eq_true, ih, tb_bitI (by omega) hi, decide_eq_true_iff]
      constructor
      · rintro (h | h)
        · exact ⟨by omega, h.2⟩
        · subst h; exact ⟨by omega, c⟩
      · intro h
        by_cases z : n = i
        · exact Or.inr z
        · exact Or.inl ⟨by omega, h.2⟩
    · rename_i c
      rw [ih]
      constructor
      · intro h; exact ⟨by omega, h.2⟩
      · intro h
        refine ⟨?_, h.2⟩
        by_cases z : n = i
        · subst z; exact absurd h.2 c
        · omega
theorem sub_iff {x y : Int32} : (x &&& (y ^^^ (-1)) = 0) ↔ ∀ i, i < 32 → tb x i = true → tb y i = true := by
  constructor
  · intro h i hi hx
    have t := congrArg (fun z => tb z i) h
    simp only [tb_and, tb_xor1 hi, tb_0, hx, Bool.true_and] at t
    cases z : tb y i
    · rw [z] at t; exact absurd t (by decide)
    · rfl
  · intro h
    apply tb_ext
    intro i hi
    rw [tb_and, tb_xor1 hi, tb_0]
    cases z : tb x i
    · rfl
    · rw [h i hi z]; rfl
/-- what is due ahead of a step is placed -/
def dueP (S : SI) (na : Nat) (s : Int32) (pl : Int32) : Prop := ∀ i, i < na → S 41 i = 1 → aheadB S i s = true → tb pl i = true
theorem due_iff (hna : na ≤ 14) {s pl : Int32} : (dueS S s na &&& (pl ^^^ (-1)) = 0) ↔ dueP S na s pl := by
  rw [sub_iff]
  constructor
  · intro h i hi h1 h2
    exact h i (by omega) ((tb_due (by omega) na hna).mpr ⟨hi, h1, h2⟩)
  · intro h i hi h1
    obtain ⟨q1, q2, q3⟩ := (tb_due hi na hna).mp h1
    exact h i q1 q2 q3
theorem rds_mem {f : Nat → Int32} {a : Nat} : ∀ n, a ∈ rds f n ↔ a < n ∧ ¬ f a = 1 := by
  intro n
  induction n with
  | zero =>
    unfold rds
    exact ⟨fun h => absurd h List.not_mem_nil, fun h => absurd h.1 (Nat.not_lt_zero a)⟩
  | succ n ih =>
    unfold rds
    split
    · rename_i c
      rw [ih]
      constructor
      · intro h; exact ⟨by omega, h.2⟩
      · intro h
        refine ⟨?_, h.2⟩
        by_cases z : a = n
        · subst z; exact absurd c h.2
        · omega
    · rename_i c
      rw [List.mem_append, ih, List.mem_singleton]
      constructor
      · rintro (h | h)
        · exact ⟨by omega, h.2⟩
        · subst h; exact ⟨by omega, c⟩
      · intro h
        by_cases z : a = n
        · exact Or.inr z
        · exact Or.inl ⟨by omega, h.2⟩
theorem rds_sorted {f : Nat → Int32} : ∀ n, (rds f n).Pairwise (· < ·) := by
  intro n
  induction n with
  | zero => unfold rds; exact List.Pairwise.nil
  | succ n ih =>
    unfold rds
    split
    · exact ih
    · rw [List.pairwise_append]
      refine ⟨ih, List.pairwise_singleton _ _, fun x hx y hy => ?_⟩
      rw [List.mem_singleton] at hy
      subst hy
      exact ((rds_mem y).mp hx).1
theorem or_bit {p a x : Nat} : (p ||| 2 ^ a).testBit x = (p.testBit x || decide (a = x)) := by
  rw [Nat.testBit_or, Nat.testBit_two_pow]
/-- acts in order, from a set and a last write on -/
def RunO (S : SI) (na : Nat) : List Nat → Nat → Nat → Prop
  | [], p, _ => mustB S na p
  | a :: L, p, w => stpO S na p w a ∧ RunO S na L (p ||| 2 ^ a) (nxW S w a)
theorem run_of_path : ∀ {L K : List Nat} {p w : Nat}, Path S na L p w → RunO S na K p w → ∃ M, RunO S na M 0 14 := by
  intro L
  induction L with
  | nil =>
    intro K p w hp hr
    obtain ⟨rfl, rfl⟩ := hp
    exact ⟨K, hr⟩
  | cons b L ih =>
    intro K p w hp hr
    obtain ⟨p', w', h1, h2, h3, h4⟩ := hp
    subst h3 h4
    exact ih (K := b :: K) h1 ⟨h2, hr⟩
/-- the gap ahead of the next read: empty, or w is its last write -/
def gapS (S : SI) (na p w : Nat) (ah v fe pl : Int32) : Prop :=
  (valW S w = v ∧ ∀ j, j < na → S 41 j = 1 → p.testBit j = true → tb pl j = true) ∨
  (w < na ∧ S 41 w = 1 ∧ p.testBit w = true ∧ tb fe w = false ∧ ¬ aheadB S w ah = true ∧ ∀ j, j < na → S 41 j = 1 → p.testBit j = true → tb pl j = true ∨ (¬ aheadB S j ah = true ∧ aheadB S w (S 45 j) = false))
theorem feed_s {r : Nat} {rs : List Nat} {ah v fe pl : Int32} : feedB S na (r :: rs) ah v fe pl = ((decide (v = S 44 r ∧ dueS S (S 45 r) na &&& (pl ^^^ (-1)) = 0) && feedB S na rs (S 45 r) v fe pl) || anyF (feedI S na (fun a b c => feedB S na rs (S 45 r) a b c) r ah fe pl) 0 na) := rfl
theorem feed_of_run (H : HIo S na) : ∀ (L : List Nat) (p w : Nat) (rs : List Nat) (ah v fe pl : Int32), RunO S na L p w → rs.Pairwise (· < ·) → (∀ r, r ∈ rs ↔ r < na ∧ ¬ S 41 r = 1 ∧ p.testBit r = false) → (∀ j, j < na → p.testBit j = false → ¬ aheadB S j ah = true) → (∀ j b, j < na → b < na → p.testBit j = true → p.testBit b = false → S 46 b = -1 ∨ ¬ S 46 b < S 45 j) → (∀ i, i < na → tb fe i = true → p.testBit i = true) → gapS S na p w ah v fe pl → feedB S na rs ah v fe pl = true := by
  obtain ⟨hna, hz, h1, hmono, hrd, hwr⟩ := H
  have inj : ∀ a b, a < na → b < na → a ≠ b → ¬ S 45 b < S 45 a → S 45 a < S 45 b := by
    intro a b ha hb hab hn
    by_cases c : a < b
    · exact hmono a b c hb
    · exact absurd (hmono b a (by omega) ha) hn
  intro L
  induction L with
  | nil =>
    intro p w rs ah v fe pl hr _ hmem _ _ _ _
    cases rs with
    | nil => rfl
    | cons r rs =>
      exfalso
      obtain ⟨q1, q2, q3⟩ := (hmem r).mp (List.mem_cons_self ..)
      have e0 := (hz r q1).resolve_right q2
      have e1 := hrd r q1 e0
      have e2 := h1 r q1
      have := hr r q1 (by rw [e1]; intro e3; rw [e3] at e2; exact absurd e2 (by decide))
      rw [q3] at this
      exact absurd this (by decide)
  | cons a L ih =>
    intro p w rs ah v fe pl hr hso hmem hc he hf hg
    obtain ⟨⟨ha, hpa, hmay, hval⟩, hrun⟩ := hr
    rw [mayB_iff] at hmay
    have hob : ∀ x, (p ||| 2 ^ a).testBit x = (p.testBit x || decide (a = x)) := fun x => or_bit
    have he' : ∀ j b, j < na → b < na → (p ||| 2 ^ a).testBit j = true → (p ||| 2 ^ a).testBit b = false → S 46 b = -1 ∨ ¬ S 46 b < S 45 j := by
      intro j b hj hb hpj hpb
      rw [hob, Bool.or_eq_false_iff] at hpb
      rw [hob, Bool.or_eq_true] at hpj
      rcases hpj with q | q
      · exact he j b hj hb q hpb.1
      · have q := of_decide_eq_true q
        subst q
        rcases hmay b hb with u | u
        · rw [hpb.1] at u; exact absurd u (by decide)
        · exact u
    by_cases hw : S 41 a = 1
    · -- a write
      have enx : nxW S w a = a := if_neg (by rw [hw]; decide)
      rw [enx] at hrun
      refine ih (p ||| 2 ^ a) a rs ah v fe pl hrun hso (fun r => ?_) (fun j hj hpj => ?_) he' (fun i hi hti => ?_) ?_
      · rw [hmem, hob]
        constructor
        · rintro ⟨q1, q2, q3⟩
          refine ⟨q1, q2, ?_⟩
          rw [q3, Bool.false_or]
          exact decide_eq_false (fun z => q2 (by rw [← z]; exact hw))
        · rintro ⟨q1, q2, q3⟩
          rw [Bool.or_eq_false_iff] at q3
          exact ⟨q1, q2, q3.1⟩
      · rw [hob, Bool.or_eq_false_iff] at hpj
        exact hc j hj hpj.1
      · rw [hob, hf i hi hti, Bool.true_or]
      · refine Or.inr ⟨ha, hw, ?_, ?_, hc a ha hpa, fun j hj hwj hpj => ?_⟩
        · rw [hob, decide_eq_true rfl, Bool.or_true]
        · cases z : tb fe a
          · rfl
          · have := hf a ha z
            rw [hpa] at this
            exact absurd this (by decide)
        · rw [hob, Bool.or_eq_true] at hpj
          have na_ah : ∀ j, j < na → p.testBit j = true → aheadB S a (S 45 j) = false := by
            intro j hj hpj
            cases z : aheadB S a (S 45 j)
            · rfl
            · obtain ⟨z1, z2⟩ := ahead_iff.mp z
              rcases he j a hj ha hpj hpa with u | u
              · exact absurd u z1
              · exact absurd z2 u
          rcases hpj with q | q
          · rcases hg with ⟨_, g2⟩ | ⟨_, _, _, _, _, g6⟩
            · exact Or.inl (g2 j hj hwj q)
            · rcases g6 j hj hwj q with u | u
              · exact Or.inl u
              · exact Or.inr ⟨u.1, na_ah j hj q⟩
          · have q := of_decide_eq_true q
            subst q
            refine Or.inr ⟨hc a ha hpa, ?_⟩
            cases z : aheadB S a (S 45 a)
            · rfl
            · obtain ⟨z1, z2⟩ := ahead_iff.mp z
              rcases hwr a ha hw with u | u
              · exact absurd u z1
              · exact absurd z2 u
    · -- a read
      have e0 := (hz a ha).resolve_right hw
      have enx : nxW S w a = w := if_pos e0
      rw [enx] at hrun
      have ea := hrd a ha e0
      have ena : ¬ S 46 a = -1 := by
        rw [ea]
        intro e3
        have e2 := h1 a ha
        rw [e3] at e2
        exact absurd e2 (by decide)
      have hv := hval e0
      -- a is the next read
      have ain : a ∈ rs := (hmem a).mpr ⟨ha, hw, hpa⟩
      cases rs with
      | nil => exact absurd ain List.not_mem_nil
      | cons r rs =>
        have hra : r = a := by
          obtain ⟨q1, q2, q3⟩ := (hmem r).mp (List.mem_cons_self ..)
          rcases List.mem_cons.mp ain with u | u
          · exact u.symm
          · have lt := (List.pairwise_cons.mp hso).1 a u
            rcases hmay r q1 with z | z | z
            · rw [q3] at z; exact absurd z (by decide)
            · rw [hrd r q1 ((hz r q1).resolve_right q2)] at z
              have e2 := h1 r q1
              rw [z] at e2
              exact absurd e2 (by decide)
            · rw [hrd r q1 ((hz r q1).resolve_right q2)] at z
              exact absurd (hmono r a lt ha) z
        subst hra
        have hso' := (List.pairwise_cons.mp hso).2
        have hmem' : ∀ x, x ∈ rs ↔ x < na ∧ ¬ S 41 x = 1 ∧ (p ||| 2 ^ r).testBit x = false := by
          intro x
          rw [hob]
          constructor
          · intro hx
            obtain ⟨q1, q2, q3⟩ := (hmem x).mp (List.mem_cons_of_mem _ hx)
            refine ⟨q1, q2, ?_⟩
            rw [q3, Bool.false_or]
            have := (List.pairwise_cons.mp hso).1 x hx
            exact decide_eq_false (by omega)
          · rintro ⟨q1, q2, q3⟩
            rw [Bool.or_eq_false_iff] at q3
            rcases List.mem_cons.mp ((hmem x).mpr ⟨q1, q2, q3.1⟩) with u | u
            · exact absurd u.symm (of_decide_eq_false q3.2)
            · exact u
        have hc' : ∀ j, j < na → (p ||| 2 ^ r).testBit j = false → ¬ aheadB S j (S 45 r) = true := by
          intro j hj hpj hz2
          rw [hob, Bool.or_eq_false_iff] at hpj
          obtain ⟨z1, z2⟩ := ahead_iff.mp hz2
          rcases hmay j hj with u | u | u
          · rw [hpj.1] at u; exact absurd u (by decide)
          · exact z1 u
          · exact u z2
        -- writes in the set began ahead of this read; what is due is in the set
        have beg : ∀ j, j < na → p.testBit j = true → S 45 j < S 45 r := by
          intro j hj hpj
          have hjr : j ≠ r := by intro z; subst z; rw [hpa] at hpj; exact absurd hpj (by decide)
          refine inj j r hj ha hjr ?_
          rcases he j r hj ha hpj hpa with u | u
          · exact absurd u ena
          · rw [ea] at u; exact u
        have due : ∀ j, j < na → aheadB S j (S 45 r) = true → p.testBit j = true := by
          intro j hj hz2
          obtain ⟨z1, z2⟩ := ahead_iff.mp hz2
          rcases hmay j hj with u | u | u
          · exact u
          · exact absurd u z1
          · exact absurd z2 u
        have pmono : ∀ x, p.testBit x = true → (p ||| 2 ^ r).testBit x = true := fun x hx => by rw [hob, hx, Bool.true_or]
        have pwr : ∀ x, S 41 x = 1 → (p ||| 2 ^ r).testBit x = true → p.testBit x = true := by
          intro x hx hpx
          rw [hob, Bool.or_eq_true] at hpx
          rcases hpx with u | u
          · exact u
          · have u := of_decide_eq_true u
            subst u; exact absurd hx hw
        rw [feed_s, Bool.or_eq_true]
        rcases hg with ⟨g1, g2⟩ | ⟨g1, g2, g3, g4, g5, g6⟩
        · left
          rw [Bool.and_eq_true, decide_eq_true_iff, due_iff hna]
          refine ⟨⟨?_, fun i hi hwi hai => g2 i hi hwi (due i hi hai)⟩, ?_⟩
          · rw [hv, g1]
          · exact ih (p ||| 2 ^ r) w rs (S 45 r) v fe pl hrun hso' hmem' hc' he' (fun i hi hti => pmono i (hf i hi hti)) (Or.inl ⟨g1, fun j hj hwj hpj => g2 j hj hwj (pwr j hwj hpj)⟩)
        · right
          rw [anyF_iff]
          have w14 : ¬ w = 14 := by omega
          have evw : valW S w = S 44 w := if_neg w14
          have allin : ∀ j, j < na → S 41 j = 1 → p.testBit j = true → tb (pl ||| aofS S w ah (S 45 r) na) j = true := by
            intro j hj hwj hpj
            rw [tb_or, Bool.or_eq_true]
            rcases g6 j hj hwj hpj with u | u
            · exact Or.inl u
            · exact Or.inr ((tb_aof (by omega) na hna).mpr ⟨hj, fit_iff.mpr ⟨⟨hwj, beg j hj hpj⟩, u.1⟩, u.2⟩)
          refine ⟨w, Nat.zero_le _, by omega, ?_⟩
          unfold feedI
          rw [Bool.and_eq_true, Bool.and_eq_true, Bool.and_eq_true, Bool.and_eq_true, decide_eq_true_iff, decide_eq_true_iff, decide_eq_true_iff, due_iff hna, tb_bit0 (by omega)]
          refine ⟨⟨⟨?_, fit_iff.mpr ⟨⟨g2, beg w g1 g3⟩, g5⟩⟩, g4⟩, fun i hi hwi hai => allin i hi hwi (due i hi hai), ?_⟩
          · rw [hv, evw]
          · refine ih (p ||| 2 ^ r) w rs (S 45 r) (S 44 r) _ _ hrun hso' hmem' hc' he' (fun i hi hti => ?_) (Or.inl ⟨hv.symm, fun j hj hwj hpj => allin j hj hwj (pwr j hwj hpj)⟩)
            rw [tb_or, Bool.or_eq_true] at hti
            rcases hti with u | u
            · exact pmono i (hf i hi u)
            · rw [tb_bitI (by omega) (by omega)] at u
              have u := of_decide_eq_true u
              subst u
              exact pmono w g3
theorem ordB_of_R (H : HIo S na) (h : ordR S na) : ordB S na = true := by
  obtain ⟨p, w, ⟨L, hL⟩, hm⟩ := h
  obtain ⟨M, hM⟩ := run_of_path (K := []) hL hm
  unfold ordB
  have z : ∀ x, Nat.testBit 0 x = false := fun x => Nat.zero_testBit x
  refine feed_of_run H M 0 14 (rds (S 41) na) 0 0 0 0 hM (rds_sorted na) (fun r => ?_) (fun j hj _ hj2 => ?_) (fun j b _ _ hj _ => ?_) (fun i _ hi => ?_) (Or.inl ⟨rfl, fun j _ _ hj => ?_⟩)
  · rw [rds_mem, z]
    exact ⟨fun q => ⟨q.1, q.2, rfl⟩, fun q => ⟨q.1, q.2.1⟩⟩
  · obtain ⟨hna, hz, h1, hmono, hrd, hwr⟩ := H
    obtain ⟨q1, q2⟩ := ahead_iff.mp hj2
    have q3 := h1 j hj
    rw [Int32.lt_iff_toInt_lt, i_zero] at q2
    rcases hz j hj with u | u
    · rw [hrd j hj u] at q2; omega
    · rcases hwr j hj u with y | y
      · exact q1 y
      · rw [Int32.lt_iff_toInt_lt] at y; omega
  · rw [z] at hj; exact absurd hj (by decide)
  · rw [tb_0] at hi; exact absurd hi (by decide)
  · rw [z] at hj; exact absurd hj (by decide)
end ORD2
