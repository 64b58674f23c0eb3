/-! ===== the invariant in a delivery: ASK, VOTE ===== -/
section DEL2
variable {st n na : Nat} {g g' : YG} {pa pa' : Nat → ZA} {pv pv' : Nat → ZV} {S S' : SI} {F F' : SF} {m d : Nat} {w : RW} {c : UInt32}
theorem pbit_tb {x : Int32} {j : Nat} (hj : j < 32) : pbit x j = if tb x j = true then 1 else 0 := tb_bit hj
theorem popN_cnt {x : Int32} : popN x = Int32.ofNat (ycnt (fun a => tb x a) 5) := by
  unfold popN
  rw [pbit_tb (by omega), pbit_tb (by omega), pbit_tb (by omega), pbit_tb (by omega), pbit_tb (by omega)]
  have e : ycnt (fun a => tb x a) 5 = 0 + (if tb x 0 = true then 1 else 0) + (if tb x 1 = true then 1 else 0) + (if tb x 2 = true then 1 else 0) + (if tb x 3 = true then 1 else 0) + (if tb x 4 = true then 1 else 0) := rfl
  rw [e]
  cases tb x 0 <;> cases tb x 1 <;> cases tb x 2 <;> cases tb x 3 <;> cases tb x 4 <;> rfl
theorem most_pop (hn : S 0 0 = Int32.ofNat n) (hn5 : n ≤ 5) {x : Int32} : (mostI S ≤ popN x) = (n / 2 + 1 ≤ ycnt (fun a => tb x a) 5) := by
  have hc : ∀ k, ycnt (fun a => tb x a) k ≤ k := by
    intro k
    induction k with
    | zero => exact Nat.le_refl _
    | succ k ih => rw [ycnt_s]; split <;> omega
  have := hc 5
  unfold mostI
  rw [hn, popN_cnt]
  have e2 : Int32.ofNat n / 2 = Int32.ofNat (n / 2) := o_div n 2 (by omega) (by omega)
  rw [e2, o_addn, o_le _ _ (by omega) (by omega)]
theorem cnt_n (hn5 : n = 3 ∨ n = 5) {q : Nat → Bool} (hq : ∀ a, a < 5 → q a = true → a < n) : ycnt q 5 = ycnt q n := by
  rcases hn5 with rfl | rfl
  · have h3 : q 3 = false := by
      cases z : q 3
      · rfl
      · have := hq 3 (by omega) z; omega
    have h4 : q 4 = false := by
      cases z : q 4
      · rfl
      · have := hq 4 (by omega) z; omega
    rw [ycnt_s, ycnt_s, h3, h4]
    rfl
  · rfl
theorem maj_of (hn : S 0 0 = Int32.ofNat n) (hn5 : n = 3 ∨ n = 5) {x : Int32} (hx : ∀ a, a < 5 → tb x a = true → a < n) (h : mostI S ≤ popN x) : ymaj n (fun a => tb x a) := by
  rw [most_pop hn (by omega)] at h
  have e : ycnt (fun a => tb x a) 5 = ycnt (fun a => tb x a) n := cnt_n hn5 hx
  unfold ymaj
  omega
/-- a message is sent -/
theorem INVw.snd0 (h : INVw st n na g pa pv S F) {w : RW} {c : UInt32} (hw : MOK n st (tmS S) g (blS S) pa pv w c) : INVw st n na g pa pv (snd (S, F) w c).1 (snd (S, F) w c).2 := by
  obtain ⟨h1, hM, hC, hR, hP, hZ, hE, hH, hX, ⟨f1, f2, f3, f4, f5, f6⟩⟩ := id h
  have hX' := MSX.snd (P := (S, F)) MOK_cg hX hw
  have ne : ∀ r k, r ≠ 37 → r ≠ 39 → r ≠ 40 → (snd (S, F) w c).1 r k = S r k := fun r k q1 q2 q3 => snd_ne q1 q2 q3 k
  have neF : ∀ r k, r ≠ 38 → (snd (S, F) w c).2 r k = F r k := fun r k q => snd_neF q k
  generalize snd (S, F) w c = P at *
  have nf : ∀ r, r ≠ 37 → r ≠ 39 → r ≠ 40 → P.1 r = S r := fun r q1 q2 q3 => funext fun k => ne r k q1 q2 q3
  have e1 : tmS P.1 = tmS S := by
    funext i
    unfold tmS
    rw [nf 9 (by decide) (by decide) (by decide)]
  refine h.mach (fun r k _ q1 q2 q3 _ => ne r k q1 q2 q3) (fun i hi => ?_) (fun k hk => ?_) (RFT_congr hR (fun r q1 q2 => nf r (by omega) (by omega) (by omega))) hE (by rw [e1]; exact hX') ?_
  · have := hM i hi
    unfold MAC at this ⊢
    rw [nf 12 (by decide) (by decide) (by decide), nf 13 (by decide) (by decide) (by decide), nf 9 (by decide) (by decide) (by decide), nf 5 (by decide) (by decide) (by decide), nf 11 (by decide) (by decide) (by decide), nf 23 (by decide) (by decide) (by decide), nf 18 (by decide) (by decide) (by decide)]
    exact this
  · rw [nf 21 (by decide) (by decide) (by decide)]; exact (hC k hk).2
  · unfold FLO
    rw [neF 1 0 (by decide), neF 2 0 (by decide), neF 3 0 (by decide), nf 21 (by decide) (by decide) (by decide), nf 23 (by decide) (by decide) (by decide)]
    refine ⟨f1, f2, f3, fun i hi => ?_, fun k hk => ?_, fun i hi => ?_⟩
    · rw [neF 7 i (by decide), neF 8 i (by decide)]; exact f4 i hi
    · rw [neF 22 k (by decide)]; exact f5 k hk
    · rw [neF 24 i (by decide)]; exact f6 i hi
/-- a vote, or none -/
theorem ghost_vote {tm : Nat → Nat} {lg : Nat → List YE} (H : yI n tm lg g) {f : Nat} (hm : m < n) (hfm : f ≠ m) (hv : yV g f (tm m) = some f) (hup : yla (lg m) < yla (yC g f (tm m)) ∨ (yla (lg m) = yla (yC g f (tm m)) ∧ (lg m).length ≤ (yC g f (tm m)).length)) (hold : yV g m (tm m) = none ∨ yV g m (tm m) = some f) (h1 : ∀ a t c, yV g a t = some c → 1 ≤ t) : ∃ g', yX tm tm g g' ∧ yI n tm lg g' ∧ yV g' m (tm m) = some f ∧ (∀ i u, i ≠ m → yV g' i u = yV g i u) ∧ yW g' = yW g ∧ yL g' = yL g ∧ yA g' = yA g ∧ yC g' = yC g ∧ (∀ a t c, yV g' a t = some c → 1 ≤ t) := by
  rcases hold with ho | ho
  · refine ⟨yVote g m (tm m) f, yX_vote ho, yI_vote H hm ho hv hup, u2_eq, fun i u hi => u2_ne (Or.inl hi), rfl, rfl, rfl, rfl, fun a t c hc => ?_⟩
    have hc' : u2 (yV g) m (tm m) (some f) a t = some c := hc
    by_cases z : a = m ∧ t = tm m
    · have := h1 f (tm m) f hv
      omega
    · rw [u2_ne (by omega)] at hc'; exact h1 a t c hc'
  · exact ⟨g, yX.refl, H, ho, fun _ _ _ => rfl, rfl, rfl, rfl, rfl, h1⟩
theorem inv_asked (hst : st < 2000) (h : INVw st n na g pa pv S F) (hm : m < n) (hw2 : w 2 = Int32.ofNat m) (hw0 : w 0 = 0) (hK : MOK n st (tmS S) g (blS S) pa pv w c) : ∃ g', INVw st n na g' pa pv (askedP (S, F) m w).1 (askedP (S, F) m w).2 := by
  obtain ⟨⟨a1, a2, a3, s0, a4, a5⟩, hM, hC, ⟨hR1, hR2, hR3, hR4, hR5, hR6, hR7, hR8⟩, hP, hZ, hE, hH, hX, hL⟩ := id h
  have n5 : n ≤ 5 := by omega
  obtain ⟨kd, f, m', k0, k7, k1, kf, k2, km, kfm, kc, kA, _⟩ := hK
  have hkd : kd = 0 := by
    rw [hw0] at k0
    have := congrArg Int32.toInt k0
    rw [o_i _ (by omega), i_zero] at this
    omega
  subst hkd
  have hmm : m' = m := by
    rw [hw2] at k2
    have := congrArg Int32.toInt k2
    rw [o_i _ (by omega), o_i _ (by omega)] at this
    omega
  subst hmm
  obtain ⟨t, b1, b2, b3, b4, _⟩ := kA (by omega)
  obtain ⟨c1, c2, c3⟩ := b4 rfl
  obtain ⟨⟨l, hl, hl30, _⟩, ⟨t0, ht0, ht0st⟩, _⟩ := hM m' (by omega)
  have etm : tmS S m' = t0 := nt_of ht0 (by omega)
  have ell : (lgS S m').length = l := by rw [lgS_len]; exact nt_of hl (by omega)
  have okm : ∀ e, e ∈ lgS S m' → e.1 = Int32.ofNat (yT e) := fun e he => (hR6 _ e (lg_in hR1 hm he)).1
  have ela := tm_last hl hl30 okm
  have vote : ∀ (b : Bool) (g2 : YG) (S2 : SI), INVw st n na g2 pa pv S2 F → tmS S2 = tmS S → S2 9 m' = S 9 m' → (b = true → yV g2 m' t0 = some f) → INVw st n na g2 pa pv (snd (S2, F) (wu (w4 1 (Int32.ofNat m') (w 1) (S 9 m')) 7 (b2i b)) FP.fconst0).1 (snd (S2, F) (wu (w4 1 (Int32.ofNat m') (w 1) (S 9 m')) 7 (b2i b)) FP.fconst0).2 := by
    intro b g2 S2 h2 et e9 hb
    refine h2.snd0 ⟨1, m', f, rfl, by omega, rfl, hm, k1, kf, fun z => kfm z.symm, PQ_c0.pf, fun _ => ⟨t0, ht0, by rw [et, etm]; exact Nat.le_refl _, by omega, fun z => absurd z (by decide), fun _ hz => ?_, fun z => absurd z (by decide), fun z => absurd z (by decide)⟩, fun z => absurd z (by decide)⟩
    have hz' : b2i b ≠ 0 := hz
    cases b
    · exact absurd rfl hz'
    · exact hb rfl
  unfold askedP
  cases hg : givesB S F m' w
  · rw [if_neg (by decide)]
    exact ⟨g, vote false g S h rfl rfl (fun z => absurd z (by decide))⟩
  · rw [if_pos rfl]
    unfold givesB at hg
    rw [Bool.and_eq_true, Bool.and_eq_true, Bool.and_eq_true, decide_eq_true_iff, Bool.or_eq_true, decide_eq_true_iff, decide_eq_true_iff, Bool.or_eq_true, Bool.and_eq_true, decide_eq_true_iff, decide_eq_true_iff, decide_eq_true_iff] at hg
    obtain ⟨⟨⟨g1, g2⟩, g3⟩, _⟩ := hg
    have ett : t = t0 := by
      rw [b1, ht0] at g1
      have := congrArg Int32.toInt g1
      rw [o_i _ (by omega), o_i _ (by omega)] at this
      omega
    subst ett
    have lac : yla (yC g f t) ≤ st := by
      unfold yla
      split
      · omega
      · rename_i e he
        have hme := List.mem_of_getLast? he
        have := hR1.2.1.2.2 f t e c1 hme
        omega
    have laa : yla (lgS S m') ≤ st := by
      unfold yla
      split
      · omega
      · rename_i e he
        have hme := List.mem_of_getLast? he
        have := hR1.2.1.1 m' e hm hme
        omega
    have lenc : (yC g f t).length ≤ 30 := by
      by_cases z : yC g f t = []
      · rw [z]; exact Nat.zero_le _
      · obtain ⟨e, he⟩ := ylast_ex z
        obtain ⟨_, hwh⟩ := (hR1.1.2.2 f t c1).whole he
        have := hR7 (yT e)
        rw [hwh, List.length_take]
        omega
    have hup : yla (lgS S m') < yla (yC g f (tmS S m')) ∨ (yla (lgS S m') = yla (yC g f (tmS S m')) ∧ (lgS S m').length ≤ (yC g f (tmS S m')).length) := by
      rw [etm]
      rcases g3 with g3 | ⟨g3, g4⟩
      · rw [ela, c3, o_lt _ _ (by omega) (by omega)] at g3
        exact Or.inl g3
      · rw [ela, c3, o_eq _ _ (by omega) (by omega)] at g3
        rw [hl, c2, o_le _ _ (by omega) (by omega)] at g4
        exact Or.inr ⟨g3.symm, by omega⟩
    have hold : yV g m' (tmS S m') = none ∨ yV g m' (tmS S m') = some f := by
      rcases hR2 m' hm with ⟨_, q⟩ | ⟨c', q1, q2, q3⟩
      · exact Or.inl q
      · refine Or.inr ?_
        rcases g2 with g2 | g2
        · rw [q1, o_ne1 _ (by omega)] at g2; exact absurd g2 id
        · rw [q1, k1, o_eq _ _ (by omega) (by omega)] at g2
          rw [q3, g2]
    obtain ⟨g', x1, x2, x3, x4, x5, x6, x7, x8, x9⟩ := ghost_vote hR1 hm kfm (by rw [etm]; exact c1) hup hold hR8
    have n10 : ∀ r k, r ≠ 10 ∨ k ≠ m' → u2 S 10 m' (w 1) r k = S r k := fun r k hk => u2_ne hk
    have nf : ∀ r, r ≠ 10 → u2 S 10 m' (w 1) r = S r := fun r hr => funext fun k => n10 r k (Or.inl hr)
    have e1 : tmS (u2 S 10 m' (w 1)) = tmS S := by
      funext i
      unfold tmS
      rw [nf 9 (by decide)]
    have e2 : lgS (u2 S 10 m' (w 1)) = lgS S := lgS_same (nf 12 (by decide)) (nf 14 (by decide)) (nf 15 (by decide)) (nf 16 (by decide)) (nf 17 (by decide))
    have hI : INVw st n na g' pa pv (u2 S 10 m' (w 1)) F := by
      refine h.mach (fun r k q q1 q2 q3 q4 => n10 r k (by omega)) (fun i hi => ?_) (fun k hk => ?_) ⟨by rw [e1, e2]; exact x2, fun i hi => ?_, fun i hi => ?_, fun i hi => ?_, fun i hi => ?_, by rw [x6]; exact hR6, by rw [x6]; exact hR7, x9⟩ (by rw [x6]; exact hE) ?_ ?_
      · have := hM i hi
        unfold MAC at this ⊢
        rw [nf 12 (by decide), nf 13 (by decide), nf 9 (by decide), nf 5 (by decide), nf 11 (by decide), nf 23 (by decide), nf 18 (by decide)]
        exact this
      · rw [nf 21 (by decide)]; exact (hC k hk).2
      · rw [e1]
        by_cases z : i = m'
        · subst z
          rw [u2_eq]
          exact Or.inr ⟨f, k1, kf, x3⟩
        · rw [n10 10 i (Or.inr z), x4 i _ z]; exact hR2 i hi
      · unfold RCA
        rw [e1, e2, nf 11 (by decide), nf 18 (by decide), x8, x5]
        intro hi1
        obtain ⟨y1, y2, y3, y4⟩ := hR3 i hi hi1
        exact ⟨x1.2.2.2.2.2.1 _ _ _ y1, y2, y3, fun a ha hta => ⟨(y4 a ha hta).1, x1.2.2.2.2.2.1 _ _ _ (y4 a ha hta).2⟩⟩
      · unfold RLE
        rw [e1, e2, nf 11 (by decide), nf 19 (by decide), nf 20 (by decide), nf 21 (by decide), x5, x7]
        exact hR4 i hi
      · rw [e1, e2, nf 13 (by decide)]
        exact (hR5 i hi).mono x1 (Nat.le_refl _) (List.prefix_refl _)
      · rw [e1]
        have h1 : MSX (MOK n st (tmS S) g (blS S) pa pv) (u2 S 10 m' (w 1)) F := hX.same (n10 39 0 (by omega)) (nf 37 (by decide)) rfl
        exact h1.ghost (Nat.le_refl _) x1 (fun _ _ => zX.refl)
      · exact FLO_congr hL (nf 21 (by decide)) (nf 23 (by decide))
    exact ⟨g', vote true g' _ hI e1 (n10 9 m' (by omega)) (fun _ => by rw [etm] at x3; exact x3)⟩
theorem start_ne {r k : Nat} (h11 : r ≠ 11 ∨ k ≠ m) (h23 : r ≠ 23 ∨ k ≠ m) (h : (r ≠ 19 ∧ r ≠ 20 ∧ r ≠ 21) ∨ ¬ (5 * m ≤ k ∧ k < 5 * m + 5)) : startS S m r k = S r k := by
  unfold startS
  rw [if_neg (by omega), if_neg (by omega), if_neg (by omega), if_neg (by omega), if_neg (by omega)]
theorem inv_voted (hst : st < 2000) (h : INVw st n na g pa pv S F) (hm : m < n) (hw2 : w 2 = Int32.ofNat m) (hw0 : w 0 = 1) (hK : MOK n st (tmS S) g (blS S) pa pv w c) : ∃ g', INVw st n na g' pa pv (votedS S m w) F := by
  obtain ⟨⟨a1, a2, a3, s0, a4, a5⟩, hM, hC, ⟨hR1, hR2, hR3, hR4, hR5, hR6, hR7, hR8⟩, hP, hZ, hE, hH, hX, hL⟩ := id h
  have n5 : n ≤ 5 := by omega
  obtain ⟨kd, f, m', k0, k7, k1, kf, k2, km, kfm, kc, kA, _⟩ := hK
  have hkd : kd = 1 := by
    rw [hw0] at k0
    have := congrArg Int32.toInt k0
    rw [o_i _ (by omega), i_one] at this
    omega
  subst hkd
  have hmm : m' = m := by
    rw [hw2] at k2
    have := congrArg Int32.toInt k2
    rw [o_i _ (by omega), o_i _ (by omega)] at this
    omega
  subst hmm
  obtain ⟨t, b1, b2, b3, _, b5, _⟩ := kA (by omega)
  obtain ⟨⟨l, hl, hl30, cm, hcm, hcl⟩, ⟨t0, ht0, ht0st⟩, _, _, _, _, gr, hgr, hgr32⟩ := hM m' (by omega)
  have etm : tmS S m' = t0 := nt_of ht0 (by omega)
  unfold votedS
  split
  · exact ⟨g, h⟩
  · rename_i nc
    have c11 : S 11 m' = 1 := Classical.byContradiction fun z => nc (Or.inl z)
    have c9 : w 3 = S 9 m' := Classical.byContradiction fun z => nc (Or.inr (Or.inl z))
    have c7 : w 7 ≠ 0 := fun z => nc (Or.inr (Or.inr z))
    have ett : t = t0 := by
      rw [b1, ht0] at c9
      have := congrArg Int32.toInt c9
      rw [o_i _ (by omega), o_i _ (by omega)] at this
      omega
    subst ett
    obtain ⟨v1, v2, v3, v4⟩ := hR3 m' hm c11
    rw [etm] at v1 v2 v3 v4
    have eb : bitI (w 1) = bitI (Int32.ofNat f) := by rw [k1]
    have small : ∃ g2, S 18 m' ||| bitI (w 1) = Int32.ofNat g2 ∧ g2 < 32 := by
      have e : bitI (Int32.ofNat f) = Int32.ofNat (2 ^ f) := o_shl f (by omega)
      refine ⟨gr ||| 2 ^ f, ?_, ?_⟩
      · rw [eb, hgr, e, o_or]
      · have : 2 ^ f < 2 ^ 5 := Nat.pow_lt_pow_right (by omega) (by omega)
        exact Nat.or_lt_two_pow (n := 5) hgr32 this
    have bits : ∀ a, a < 5 → tb (S 18 m' ||| bitI (w 1)) a = true → a < n ∧ yV g a t = some m' := by
      intro a ha hta
      rw [tb_or, Bool.or_eq_true] at hta
      rcases hta with q | q
      · exact v4 a ha q
      · rw [eb, tb_bitI (by omega) (by omega)] at q
        have e := of_decide_eq_true q
        subst e
        exact ⟨kf, b5 rfl c7⟩
    have n18 : ∀ r k, r ≠ 18 ∨ k ≠ m' → u2 S 18 m' (S 18 m' ||| bitI (w 1)) r k = S r k := fun r k hk => u2_ne hk
    have nf : ∀ r, r ≠ 18 → u2 S 18 m' (S 18 m' ||| bitI (w 1)) r = S r := fun r hr => funext fun k => n18 r k (Or.inl hr)
    have e1 : tmS (u2 S 18 m' (S 18 m' ||| bitI (w 1))) = tmS S := by
      funext i
      unfold tmS
      rw [nf 9 (by decide)]
    have e2 : lgS (u2 S 18 m' (S 18 m' ||| bitI (w 1))) = lgS S := lgS_same (nf 12 (by decide)) (nf 14 (by decide)) (nf 15 (by decide)) (nf 16 (by decide)) (nf 17 (by decide))
    have hI : INVw st n na g pa pv (u2 S 18 m' (S 18 m' ||| bitI (w 1))) F := by
      refine h.mach (fun r k q q1 q2 q3 q4 => n18 r k (by omega)) (fun i hi => ?_) (fun k hk => ?_) ⟨by rw [e1, e2]; exact hR1, fun i hi => ?_, fun i hi => ?_, fun i hi => ?_, fun i hi => ?_, hR6, hR7, hR8⟩ hE ?_ ?_
      · have hx := hM i hi
        unfold MAC at hx ⊢
        rw [nf 12 (by decide), nf 13 (by decide), nf 9 (by decide), nf 5 (by decide), nf 11 (by decide), nf 23 (by decide)]
        by_cases z : i = m'
        · subst z; rw [u2_eq]; exact ⟨hx.1, hx.2.1, hx.2.2.1, hx.2.2.2.1, hx.2.2.2.2.1, hx.2.2.2.2.2.1, small⟩
        · rw [n18 18 i (Or.inr z)]; exact hx
      · rw [nf 21 (by decide)]; exact (hC k hk).2
      · rw [e1, nf 10 (by decide)]; exact hR2 i hi
      · unfold RCA
        rw [e1, e2, nf 11 (by decide)]
        by_cases z : i = m'
        · subst z
          rw [u2_eq, etm]
          exact fun _ => ⟨v1, v2, v3, bits⟩
        · rw [n18 18 i (Or.inr z)]; exact hR3 i hi
      · unfold RLE
        rw [e1, e2, nf 11 (by decide), nf 19 (by decide), nf 20 (by decide), nf 21 (by decide)]
        exact hR4 i hi
      · rw [e1, e2, nf 13 (by decide)]; exact hR5 i hi
      · rw [e1]
        exact hX.same (n18 39 0 (by omega)) (nf 37 (by decide)) rfl
      · exact FLO_congr hL (nf 21 (by decide)) (nf 23 (by decide))
    show ∃ g', INVw st n na g' pa pv (if mostI S ≤ popN (S 18 m' ||| bitI (w 1)) then startS (u2 S 18 m' (S 18 m' ||| bitI (w 1))) m' else u2 S 18 m' (S 18 m' ||| bitI (w 1))) F
    split
    · rename_i cm
      have hq := maj_of a1 a2 (fun a ha hta => (bits a ha hta).1) cm
      have hqv : ∀ a, a < n → (fun a => tb (S 18 m' ||| bitI (w 1)) a) a = true → yV g a (tmS S m') = some m' := fun a ha hta => by rw [etm]; exact (bits a (by omega) hta).2
      have hnone : yW g (tmS S m') = none := by
        cases z : yW g (tmS S m') with
        | none => rfl
        | some c' =>
          have := yW_one hR1 hq hqv z
          subst this
          rw [etm] at z
          exact absurd z v3
      have x := yX_elect (L := lgS S m') hR1 hnone rfl
      have hI2 := yI_elect hR1 hm hnone (by rw [etm]; exact v1) (by rw [etm]; exact v2) hq hqv
      generalize hS1 : u2 S 18 m' (S 18 m' ||| bitI (w 1)) = S1 at *
      obtain ⟨_, hM1, hC1, ⟨_, hR2', hR3', hR4', hR5', _⟩, _, _, _, _, hX1, hL1⟩ := id hI
      have W0 : yW (yElect g (tmS S m') m' (lgS S m')) (tmS S m') = some m' := yup_eq
      have W1 : ∀ u, u ≠ tmS S m' → yW (yElect g (tmS S m') m' (lgS S m')) u = yW g u := fun u hu => yup_ne hu
      have g0 : yL g (tmS S m') = [] := hR1.2.2.2.2.2.1.2.2.1 _ hnone
      have LE : ∀ u e, e ∈ yL (yElect g (tmS S m') m' (lgS S m')) u → e ∈ yL g u ∨ e ∈ lgS S m' := by
        intro u e he
        have he' : e ∈ yup (yL g) (tmS S m') (lgS S m') u := he
        by_cases z : u = tmS S m'
        · subst z; rw [yup_eq] at he'; exact Or.inr he'
        · rw [yup_ne z] at he'; exact Or.inl he'
      have ne0 : ∀ r k, r ≠ 11 → r ≠ 23 → r ≠ 19 → r ≠ 20 → r ≠ 21 → startS S1 m' r k = S1 r k := fun r k q1 q2 q3 q4 q5 => start_ne (Or.inl q1) (Or.inl q2) (Or.inl ⟨q3, q4, q5⟩)
      have nfs : ∀ r, r ≠ 11 → r ≠ 23 → r ≠ 19 → r ≠ 20 → r ≠ 21 → startS S1 m' r = S1 r := fun r q1 q2 q3 q4 q5 => funext fun k => ne0 r k q1 q2 q3 q4 q5
      have d11 : startS S1 m' 11 m' = 2 := by
        unfold startS
        rw [if_pos ⟨rfl, rfl⟩]
      have d23 : startS S1 m' 23 m' = 0 := by
        unfold startS
        rw [if_neg (by omega), if_pos ⟨rfl, rfl⟩]
      have d19 : ∀ o, o < 5 → startS S1 m' 19 (5 * m' + o) = S1 12 m' := by
        intro o ho
        unfold startS
        rw [if_neg (by omega), if_neg (by omega), if_pos ⟨rfl, by omega⟩]
      have d20 : ∀ o, o < 5 → startS S1 m' 20 (5 * m' + o) = 0 := by
        intro o ho
        unfold startS
        rw [if_neg (by omega), if_neg (by omega), if_neg (by omega), if_pos ⟨rfl, by omega⟩]
      have d21 : ∀ o, o < 5 → startS S1 m' 21 (5 * m' + o) = 0 := by
        intro o ho
        unfold startS
        rw [if_neg (by omega), if_neg (by omega), if_neg (by omega), if_neg (by omega), if_pos ⟨rfl, by omega⟩]
      have oth : ∀ r i o, o < 5 → i ≠ m' → (r = 19 ∨ r = 20 ∨ r = 21) → startS S1 m' r (5 * i + o) = S1 r (5 * i + o) := fun r i o ho hi hr => start_ne (by omega) (by omega) (by omega)
      have et1 : tmS S1 = tmS S := e1
      have es1 : tmS (startS S1 m') = tmS S := by
        rw [← et1]
        funext i
        unfold tmS
        rw [nfs 9 (by decide) (by decide) (by decide) (by decide) (by decide)]
      have es2 : lgS (startS S1 m') = lgS S := by
        rw [← e2]
        exact lgS_same (nfs 12 (by decide) (by decide) (by decide) (by decide) (by decide)) (nfs 14 (by decide) (by decide) (by decide) (by decide) (by decide)) (nfs 15 (by decide) (by decide) (by decide) (by decide) (by decide)) (nfs 16 (by decide) (by decide) (by decide) (by decide) (by decide)) (nfs 17 (by decide) (by decide) (by decide) (by decide) (by decide))
      have eb1 : blS S1 = blS S := by
        funext d a
        unfold blS
        rw [nf 27 (by decide)]
      have d21' : ∀ k, k < 25 → startS S1 m' 21 k = 0 ∨ startS S1 m' 21 k = S1 21 k := by
        intro k hk
        by_cases z : 5 * m' ≤ k ∧ k < 5 * m' + 5
        · have := d21 (k - 5 * m') (by omega)
          rw [show 5 * m' + (k - 5 * m') = k by omega] at this
          exact Or.inl this
        · exact Or.inr (start_ne (by omega) (by omega) (Or.inr z))
      refine ⟨yElect g (tmS S m') m' (lgS S m'), hI.mach (fun r k q q1 q2 q3 q4 => ne0 r k (by omega) (by omega) (by omega) (by omega) (by omega)) (fun i hi => ?_) (fun k hk => ?_) ⟨by rw [es1, es2]; exact hI2, fun i hi => ?_, fun i hi => ?_, fun i hi => ?_, fun i hi => ?_, fun u e he => ?_, fun u => ?_, hR8⟩ (fun u e he => ?_) ?_ ?_⟩
      · have hx := hM1 i hi
        unfold MAC at hx ⊢
        rw [ne0 12 i (by decide) (by decide) (by decide) (by decide) (by decide), ne0 13 i (by decide) (by decide) (by decide) (by decide) (by decide), ne0 9 i (by decide) (by decide) (by decide) (by decide) (by decide), ne0 5 i (by decide) (by decide) (by decide) (by decide) (by decide), ne0 18 i (by decide) (by decide) (by decide) (by decide) (by decide)]
        by_cases z : i = m'
        · subst z; rw [d11, d23]; exact ⟨hx.1, hx.2.1, hx.2.2.1, Or.inr (Or.inr rfl), Or.inl rfl, fun _ => rfl, hx.2.2.2.2.2.2⟩
        · have q11 : startS S1 m' 11 i = S1 11 i := start_ne (Or.inr z) (Or.inl (by decide)) (Or.inl (by decide))
          have q23 : startS S1 m' 23 i = S1 23 i := start_ne (Or.inl (by decide)) (Or.inr z) (Or.inl (by decide))
          rw [q11, q23]; exact hx
      · rcases d21' k hk with q | q
        · exact Or.inl q
        · rw [q]; exact (hC1 k hk).2
      · rw [es1, nfs 10 (by decide) (by decide) (by decide) (by decide) (by decide)]
        have hx := hR2' i hi
        rw [et1] at hx
        exact hx
      · unfold RCA
        by_cases z : i = m'
        · subst z; rw [d11]; exact fun w => absurd w (by decide)
        · have q11 : startS S1 m' 11 i = S1 11 i := start_ne (Or.inr z) (Or.inl (by decide)) (Or.inl (by decide))
          rw [q11, es1, es2, nfs 18 (by decide) (by decide) (by decide) (by decide) (by decide)]
          intro hi1
          have hx := hR3' i hi hi1
          rw [et1, e2] at hx
          obtain ⟨y1, y2, y3, y4⟩ := hx
          refine ⟨y1, y2, fun hc => ?_, y4⟩
          by_cases u : tmS S i = tmS S m'
          · rw [u, W0] at hc; exact z (Option.some.inj hc).symm
          · rw [W1 _ u] at hc; exact y3 hc
      · unfold RLE
        rw [es1, es2]
        by_cases z : i = m'
        · subst z
          intro _
          refine ⟨W0, fun o ho hoi => ⟨l, ?_, ?_⟩, fun o ho => ⟨0, d20 o ho, by omega, fun _ => rfl, fun _ _ => Nat.zero_le _⟩, fun o ho _ => d21 o ho⟩
          · rw [d19 o (by omega), ← hS1, u2_ne (by omega)]; exact hl
          · rw [lgS_len, nt_of hl (by omega)]; exact Nat.le_refl _
        · have q11 : startS S1 m' 11 i = S1 11 i := start_ne (Or.inr z) (Or.inl (by decide)) (Or.inl (by decide))
          rw [q11]
          intro hi2
          have hx := hR4' i hi hi2
          rw [et1, e2] at hx
          obtain ⟨y1, y2, y3, y4⟩ := hx
          refine ⟨x.2.2.2.2.1 _ _ y1, fun o ho hoi => ?_, fun o ho => ?_, fun o ho hoo => ?_⟩
          · rw [oth 19 i o (by omega) z (by omega)]; exact y2 o ho hoi
          · rw [oth 20 i o ho z (by omega)]
            obtain ⟨q, q1, q2, q3, q4⟩ := y3 o ho
            exact ⟨q, q1, q2, q3, fun w1 w2 => Nat.le_trans (q4 w1 w2) (x.2.2.2.1 _ _)⟩
          · rw [oth 21 i o ho z (by omega)]; exact y4 o ho hoo
      · rw [es1, es2, nfs 13 (by decide) (by decide) (by decide) (by decide) (by decide)]
        have hx := hR5' i hi
        rw [et1, e2] at hx
        exact hx.mono x (Nat.le_refl _) (List.prefix_refl _)
      · rcases LE u e he with q | q
        · exact hR6 u e q
        · exact hR6 _ e (lg_in hR1 hm q)
      · show (yup (yL g) (tmS S m') (lgS S m') u).length ≤ 30
        by_cases z : u = tmS S m'
        · subst z; rw [yup_eq, lgS_len, nt_of hl (by omega)]; exact hl30
        · rw [yup_ne z]; exact hR7 u
      · have q47 : ∀ c' s', hasA S na c' s' → hasA S1 na c' s' := by
          intro c' s' hh
          exact hasA_congr hh (fun r r1 r2 => nf r (by omega))
        rcases LE u e he with q | q
        · exact q47 _ _ (hE u e q)
        · exact q47 _ _ (hE _ e (lg_in hR1 hm q))
      · rw [es1]
        have h1 : MSX (MOK n st (tmS S1) g (blS S1) pa pv) (startS S1 m') F := hX1.same (ne0 39 0 (by decide) (by decide) (by decide) (by decide) (by decide)) (nfs 37 (by decide) (by decide) (by decide) (by decide) (by decide)) rfl
        rw [et1] at h1
        exact h1.ghost (Nat.le_refl _) x (fun _ _ => zX.refl)
      · obtain ⟨f1, f2, f3, f4, f5, f6⟩ := hL1
        refine ⟨f1, f2, f3, f4, fun k hk hz => ?_, fun i hi => ?_⟩
        · rcases d21' k hk with q | q
          · rw [q] at hz; exact absurd hz (by decide)
          · rw [q] at hz; exact f5 k hk hz
        · by_cases z : i = m'
          · subst z; rw [d23]; exact fun w => absurd w (by decide)
          · have q23 : startS S1 m' 23 i = S1 23 i := start_ne (Or.inl (by decide)) (Or.inr z) (Or.inl (by decide))
            rw [q23]; exact f6 i hi
    · exact ⟨g, hI⟩
end DEL2
