/-! ===== the reference: beat ===== -/
section REFI
variable {S : SI} {F : SF} {e : EX} {M : SI} {G : SF} {c : Nat × Nat × Nat × (Nat → Int32)} {h : HP} {d : Nat} {Q : Out → HP → Prop} {n q l : Nat}
/-- the row with the k entries of m behind place p put in -/
def wuE (w : RW) (A : SI) (m p k : Nat) : RW := fun j => if 10 ≤ j ∧ j < 10 + 4 * k then A (14 + (j - 10) % 4) (30 * m + p + (j - 10) / 4) else w j
theorem wuE_succ {w : RW} {A : SI} {m p k : Nat} : wu (wu (wu (wu (wuE w A m p k) (10 + 4 * k) (A 14 (30 * m + p + k))) (11 + 4 * k) (A 15 (30 * m + p + k))) (12 + 4 * k) (A 16 (30 * m + p + k))) (13 + 4 * k) (A 17 (30 * m + p + k)) = wuE w A m p (k + 1) := by
  funext j
  unfold wu
  by_cases c3 : j = 13 + 4 * k
  · rw [if_pos c3]
    unfold wuE
    rw [if_pos (by omega), show (j - 10) % 4 = 3 by omega, show (j - 10) / 4 = k by omega]
  · rw [if_neg c3]
    by_cases c2 : j = 12 + 4 * k
    · rw [if_pos c2]
      unfold wuE
      rw [if_pos (by omega), show (j - 10) % 4 = 2 by omega, show (j - 10) / 4 = k by omega]
    · rw [if_neg c2]
      by_cases c1 : j = 11 + 4 * k
      · rw [if_pos c1]
        unfold wuE
        rw [if_pos (by omega), show (j - 10) % 4 = 1 by omega, show (j - 10) / 4 = k by omega]
      · rw [if_neg c1]
        by_cases c0 : j = 10 + 4 * k
        · rw [if_pos c0]
          unfold wuE
          rw [if_pos (by omega), show (j - 10) % 4 = 0 by omega, show (j - 10) / 4 = k by omega]
        · rw [if_neg c0]
          unfold wuE
          by_cases c : 10 ≤ j ∧ j < 10 + 4 * k
          · rw [if_pos c, if_pos (by omega)]
          · rw [if_neg c, if_neg (by omega)]
theorem x_beat_222 {P : PT} {w : RW} {x : UInt32} {m p o many : Nat} (hM : P.1 1000 0 = 0) (hm : m < 5) (hq : P.1 39 0 = Int32.ofNat q) (hq60 : q < 60) (hp : p + many ≤ 30) (hmn : many ≤ 3) {b v4 : Int32} (k : ∀ h', RC S F e ((snd P (wuE w P.1 m p many) x).1, (snd P (wuE w P.1 m p many) x).2, c) h' → ∀ v9 v10, WP d mX12_beat 63 [some (.ref 210), some (.int (Int32.ofNat m)), some (.int b), some (.int (Int32.ofNat m)), some (.int v4), some (.int (Int32.ofNat (o + 1))), some (.int (Int32.ofNat p)), some (.int (Int32.ofNat many)), some (.int (Int32.ofNat (24 * q))), v9, v10] [] h' Q) :
    ∀ (t j : Nat) (h : HP) (u : Option Value), j + t = many → RC S F e ((snd P (wuE w P.1 m p j) x).1, (snd P (wuE w P.1 m p j) x).2, c) h → WP d mX12_beat 222 [some (.ref 210), some (.int (Int32.ofNat m)), some (.int b), some (.int (Int32.ofNat m)), some (.int v4), some (.int (Int32.ofNat o)), some (.int (Int32.ofNat p)), some (.int (Int32.ofNat many)), some (.int (Int32.ofNat (24 * q))), some (.int (Int32.ofNat j)), u] [] h Q := by
  intro t
  induction t with
  | zero =>
    intro j h u hj hr
    obtain rfl : j = many := by omega
    refine bX12_beat_222 ?_
    simp (disch := omega) only [o_c, o_add, o_addn, o_nadd, o_muln, o_le, o_lt, o_nle, o_len, o_nlt, o_ltn, o_eq, o_eqn, o_neq, o_sub1]
    exact ⟨fun _ => k h hr _ _, fun w => absurd (Nat.le_refl _) w⟩
  | succ t ih =>
    intro j h u hj hr
    have a0 : ∀ (w' : RW) s k, s ≠ 37 → s ≠ 39 → s ≠ 40 → (snd P w' x).1 s k = P.1 s k := fun w' s k h1 h2 h3 => snd_ne h1 h2 h3 k
    have hM0 : (snd P (wuE w P.1 m p j) x).1 1000 0 = 0 := (a0 _ _ _ (by decide) (by decide) (by decide)).trans hM
    have hr0 := hr
    have e14 : (snd P (wuE w P.1 m p j) x).1 14 (30 * m + p + j) = P.1 14 (30 * m + p + j) := a0 _ _ _ (by decide) (by decide) (by decide)
    have r1 := rm_37 (24 * q + 10 + 4 * j) ((snd P (wuE w P.1 m p j) x).1 14 (30 * m + p + j)) hr
    have b15 := qA_15 r1 hM0
    have e15 : u2 (snd P (wuE w P.1 m p j) x).1 37 (24 * q + 10 + 4 * j) ((snd P (wuE w P.1 m p j) x).1 14 (30 * m + p + j)) 15 (30 * m + p + j) = P.1 15 (30 * m + p + j) := (u2_ne (by omega)).trans (a0 _ _ _ (by decide) (by decide) (by decide))
    have r2 := rm_37 (24 * q + 11 + 4 * j) (P.1 15 (30 * m + p + j)) r1
    have s2 : u2 (u2 (snd P (wuE w P.1 m p j) x).1 37 (24 * q + 10 + 4 * j) ((snd P (wuE w P.1 m p j) x).1 14 (30 * m + p + j))) 37 (24 * q + 11 + 4 * j) (P.1 15 (30 * m + p + j)) = (snd P (wu (wu (wuE w P.1 m p j) (10 + 4 * j) (P.1 14 (30 * m + p + j))) (11 + 4 * j) (P.1 15 (30 * m + p + j))) x).1 := by
      rw [e14, Nat.add_assoc (24 * q), Nat.add_assoc (24 * q), snd_wu hq hq60 (by omega), snd_wu hq hq60 (by omega)]
    rw [s2] at r2
    refine bX12_beat_222 ?_
    simp (disch := omega) only [q0 hr0 hM0, qR_14 hr0 hM0, qK_14 hr0 hM0, qi_14 hr0 hM0, qA_14 hr0 hM0, qR_15 hr0 hM0, qK_15 hr0 hM0, qi_15 hr0 hM0, qA_15 hr0 hM0, qR_37 hr0 hM0, qK_37 hr0 hM0, qi_37 hr0 hM0, qA_37 hr0 hM0, b15, e15, o_c, o_add, o_addn, o_nadd, o_muln, o_le, o_lt, o_nle, o_len, o_nlt, o_ltn, o_eq, o_eqn, o_neq, o_sub1, true_and]
    refine ⟨fun w => by omega, fun _ => bX12_beat_285 ?_⟩
    generalize sAI (sAI h 243 (24 * q + 10 + 4 * j) ((snd P (wuE w P.1 m p j) x).1 14 (30 * m + p + j))) 243 (24 * q + 11 + 4 * j) (P.1 15 (30 * m + p + j)) = h2 at r2 ⊢
    have hM2 : (snd P (wu (wu (wuE w P.1 m p j) (10 + 4 * j) (P.1 14 (30 * m + p + j))) (11 + 4 * j) (P.1 15 (30 * m + p + j))) x).1 1000 0 = 0 := (a0 _ _ _ (by decide) (by decide) (by decide)).trans hM
    have e16 : (snd P (wu (wu (wuE w P.1 m p j) (10 + 4 * j) (P.1 14 (30 * m + p + j))) (11 + 4 * j) (P.1 15 (30 * m + p + j))) x).1 16 (30 * m + p + j) = P.1 16 (30 * m + p + j) := a0 _ _ _ (by decide) (by decide) (by decide)
    have r3 := rm_37 (24 * q + 12 + 4 * j) ((snd P (wu (wu (wuE w P.1 m p j) (10 + 4 * j) (P.1 14 (30 * m + p + j))) (11 + 4 * j) (P.1 15 (30 * m + p + j))) x).1 16 (30 * m + p + j)) r2
    have b17 := qA_17 r3 hM2
    have e17 : u2 (snd P (wu (wu (wuE w P.1 m p j) (10 + 4 * j) (P.1 14 (30 * m + p + j))) (11 + 4 * j) (P.1 15 (30 * m + p + j))) x).1 37 (24 * q + 12 + 4 * j) ((snd P (wu (wu (wuE w P.1 m p j) (10 + 4 * j) (P.1 14 (30 * m + p + j))) (11 + 4 * j) (P.1 15 (30 * m + p + j))) x).1 16 (30 * m + p + j)) 17 (30 * m + p + j) = P.1 17 (30 * m + p + j) := (u2_ne (by omega)).trans (a0 _ _ _ (by decide) (by decide) (by decide))
    have r4 := rm_37 (24 * q + 13 + 4 * j) (P.1 17 (30 * m + p + j)) r3
    have s4 : u2 (u2 (snd P (wu (wu (wuE w P.1 m p j) (10 + 4 * j) (P.1 14 (30 * m + p + j))) (11 + 4 * j) (P.1 15 (30 * m + p + j))) x).1 37 (24 * q + 12 + 4 * j) ((snd P (wu (wu (wuE w P.1 m p j) (10 + 4 * j) (P.1 14 (30 * m + p + j))) (11 + 4 * j) (P.1 15 (30 * m + p + j))) x).1 16 (30 * m + p + j))) 37 (24 * q + 13 + 4 * j) (P.1 17 (30 * m + p + j)) = (snd P (wuE w P.1 m p (j + 1)) x).1 := by
      rw [e16, Nat.add_assoc (24 * q), Nat.add_assoc (24 * q), snd_wu hq hq60 (by omega), snd_wu hq hq60 (by omega), wuE_succ]
    rw [s4] at r4
    simp (disch := omega) only [q0 r2 hM2, qR_16 r2 hM2, qK_16 r2 hM2, qi_16 r2 hM2, qA_16 r2 hM2, qR_17 r2 hM2, qK_17 r2 hM2, qi_17 r2 hM2, qA_17 r2 hM2, qR_37 r2 hM2, qK_37 r2 hM2, qi_37 r2 hM2, qA_37 r2 hM2, b17, e17, o_c, o_add, o_addn, o_nadd, o_muln, o_le, o_lt, o_nle, o_len, o_nlt, o_ltn, o_eq, o_eqn, o_neq, o_sub1, true_and]
    exact ih (j + 1) _ _ (by omega) r4
theorem apW_eq {m o p : Nat} (hp : M 19 (5 * m + o) = Int32.ofNat p) (hl : M 12 m = Int32.ofNat l) (h30 : l ≤ 30) (hpl : p ≤ l) : wuE (wu (wu (wu (wu (w4 2 (Int32.ofNat m) (Int32.ofNat o) (M 9 m)) 4 (Int32.ofNat p)) 5 (tmAt M m (Int32.ofNat p))) 6 (M 13 m)) 8 (Int32.ofNat (min 3 (l - p)))) M m p (min 3 (l - p)) = apW M m o := by
  have hmn : manyN M m o = min 3 (l - p) := by
    unfold manyN
    rw [hl, hp, nt_of rfl (by omega), nt_of rfl (by omega)]
  funext j
  unfold apW entW
  rw [hmn, hp, nt_of rfl (by omega)]
  unfold wuE
  by_cases c : 10 ≤ j ∧ j < 10 + 4 * min 3 (l - p)
  · rw [if_pos c, if_neg (by omega), if_neg (by omega), if_neg (by omega), if_neg (by omega), if_neg (by omega), if_neg (by omega), if_neg (by omega), if_neg (by omega), if_pos c]
  · rw [if_neg c, if_neg c]
    unfold wu w4
    by_cases c8 : j = 8
    · subst c8; rfl
    · by_cases c6 : j = 6
      · subst c6; rfl
      · by_cases c5 : j = 5
        · subst c5; rfl
        · by_cases c4 : j = 4
          · subst c4; rfl
          · rw [if_neg c8, if_neg c6, if_neg c5, if_neg c4, if_neg c4, if_neg c5, if_neg c6, if_neg c8]
theorem x_beat_63 {p na : Nat} (hM : M 1000 0 = 0) (hp : p < 5) (hn : M 0 0 = Int32.ofNat n) (hn5 : n ≤ 5) (hl : M 12 p = Int32.ofNat l) (h30 : l ≤ 30) (hsup : ∀ o, o < n → o ≠ p → ∃ r, M 19 (5 * p + o) = Int32.ofNat r ∧ r ≤ l) (hq : M 39 0 = Int32.ofNat q) (hq60 : q ≤ 60) (H : ENDH M n na) {b : Int32} (k : ∀ h', RC S F e (endsS (beatP (M, G) p n).1, (beatP (M, G) p n).2, c) h' → Q (.inl (some (.int (Int32.ofNat (beatN M p n))))) h') :
    ∀ (m j : Nat) (h : HP) (u6 u7 u8 u9 u10 : Option Value), j + m = n → RC S F e ((toAll (apW M p) (G 7 p) p j (M, G)).1, (toAll (apW M p) (G 7 p) p j (M, G)).2, c) h → WP (d + 2) mX12_beat 63 [some (.ref 210), some (.int (Int32.ofNat p)), some (.int b), some (.int (Int32.ofNat p)), some (.int (Int32.ofNat (beatN M p j))), some (.int (Int32.ofNat j)), u6, u7, u8, u9, u10] [] h Q := by
  intro m
  induction m with
  | zero =>
    intro j h u6 u7 u8 u9 u10 hj hr
    obtain rfl : j = n := by omega
    have hM' : (toAll (apW M p) (G 7 p) p j (M, G)).1 1000 0 = 0 := (toAll_ne (by decide) (by decide) (by decide) _ _).trans hM
    have e0 : hI h 1200 210 = Int32.ofNat j := ((qI_0 hr hM').trans (toAll_ne (by decide) (by decide) (by decide) _ _)).trans hn
    refine bX12_beat_63 ⟨q0 hr hM', ?_⟩
    rw [e0, o_le _ _ (by omega) (by omega)]
    refine ⟨fun _ => ⟨by decide, x_endsH hr hM' (ENDH_all H) ?_⟩, fun w => absurd (Nat.le_refl _) w⟩
    intro h' hr'
    rw [KK_ret]
    exact bX12_beat_345 (k h' hr')
  | succ m ih =>
    intro j h u6 u7 u8 u9 u10 hj hr
    have ne : ∀ s k, s ≠ 37 → s ≠ 39 → s ≠ 40 → (toAll (apW M p) (G 7 p) p j (M, G)).1 s k = M s k := fun s k h1 h2 h3 => toAll_ne h1 h2 h3 _ _
    have hM' : (toAll (apW M p) (G 7 p) p j (M, G)).1 1000 0 = 0 := (ne _ _ (by decide) (by decide) (by decide)).trans hM
    have e0 : hI h 1200 210 = Int32.ofNat n := ((qI_0 hr hM').trans (ne _ _ (by decide) (by decide) (by decide))).trans hn
    have e9 : (toAll (apW M p) (G 7 p) p j (M, G)).1 9 p = M 9 p := ne _ _ (by decide) (by decide) (by decide)
    have e12 : (toAll (apW M p) (G 7 p) p j (M, G)).1 12 p = Int32.ofNat l := (ne _ _ (by decide) (by decide) (by decide)).trans hl
    have hb3 : beatN M p j ≤ 3 * j := beatN_le
    obtain ⟨q', hq', hq2⟩ := toAll_cnt (P := (M, G)) (g := apW M p) (c := G 7 p) (m := p) hq hq60 j
    refine bX12_beat_63 ⟨q0 hr hM', ?_⟩
    rw [e0, o_le _ _ (by omega) (by omega), o_eq _ _ (by omega) (by omega), o_addn]
    refine ⟨fun w => by omega, fun _ => ⟨fun w => ?_, fun w => ?_⟩⟩
    · have t := ih (j + 1) h u6 u7 u8 u9 u10 (by omega) (by unfold toAll; rw [if_pos w]; exact hr)
      unfold beatN at t
      rw [if_pos w] at t
      exact t
    · obtain ⟨r, hr19, hrl⟩ := hsup j (by omega) w
      have e19 : (toAll (apW M p) (G 7 p) p j (M, G)).1 19 (5 * p + j) = Int32.ofNat r := (ne _ _ (by decide) (by decide) (by decide)).trans hr19
      have ej : toAll (apW M p) (G 7 p) p (j + 1) (M, G) = snd (toAll (apW M p) (G 7 p) p j (M, G)) (apW M p j) (G 7 p) := if_neg w
      have hmn : manyN M p j = min 3 (l - r) := by
        unfold manyN
        rw [hl, hr19, nt_of rfl (by omega), nt_of rfl (by omega)]
      have hbs : beatN M p (j + 1) = beatN M p j + min 3 (l - r) := by
        show (if j = p then beatN M p j else beatN M p j + manyN M p j) = _
        rw [if_neg w, hmn]
      generalize hP : toAll (apW M p) (G 7 p) p j (M, G) = P at *
      have main : ∀ mn : Nat, mn = min 3 (l - r) → WP (d + 1) mX12_sends 0 [some (.ref 210), some (.int 2), some (.int (Int32.ofNat p)), some (.int (Int32.ofNat j)), some (.int (M 9 p)), none, none] [] h (KK (d + 1) mX12_beat mX12_sends 130 [some (.ref 210), some (.int (Int32.ofNat p)), some (.int b), some (.int (Int32.ofNat p)), some (.int (Int32.ofNat (beatN M p j))), some (.int (Int32.ofNat j)), some (.int (Int32.ofNat r)), some (.int (Int32.ofNat mn)), u8, u9, u10] [] Q) := by
        intro mn hmn
        refine x_sends hr hM' hq' hq2 ?_
        intro h2 hr2
        rw [KK_ret]
        by_cases c6 : q' < 60
        · rw [at_ne c6]
          have a0 : ∀ (w' : RW) x s k, s ≠ 37 → s ≠ 39 → s ≠ 40 → (snd P w' x).1 s k = M s k := fun w' x s k h1 h2 h3 => (snd_ne h1 h2 h3 k).trans (ne s k h1 h2 h3)
          have f0 : ∀ (w' : RW) x, (snd P w' x).2 7 p = G 7 p := by
            intro w' x
            refine (snd_neF (by decide) _).trans ?_
            rw [← hP]
            exact toAll_neF (by decide) _ _
          have hM2 : (snd P (w4 2 (Int32.ofNat p) (Int32.ofNat j) (M 9 p)) FP.fconst0).1 1000 0 = 0 := (a0 _ _ _ _ (by decide) (by decide) (by decide)).trans hM
          have f7 := f0 (w4 2 (Int32.ofNat p) (Int32.ofNat j) (M 9 p)) FP.fconst0
          have r3 := rm_38 q' (G 7 p) hr2
          rw [snd_cl hq' c6] at r3
          have r3' := rm_37 (24 * q' + 4) (Int32.ofNat r) r3
          rw [snd_wu hq' c6 (by decide)] at r3'
          refine bX12_beat_133 ⟨fun w2 => absurd w2 (by rw [o_ne1 _ (by omega)]; exact id), fun _ => ?_⟩
          simp (disch := omega) only [q0 hr2 hM2, qR_7 hr2 hM2, qK_7 hr2 hM2, qi_7 hr2 hM2, qA_7 hr2 hM2, qR_37 hr2 hM2, qK_37 hr2 hM2, qi_37 hr2 hM2, qA_37 hr2 hM2, qR_38 hr2 hM2, qK_38 hr2 hM2, qi_38 hr2 hM2, qA_38 hr2 hM2, o_div24 q' c6, f7, o_c, o_add, o_addn, o_nadd, o_muln, o_le, o_lt, o_nle, o_len, o_nlt, o_ltn, o_eq, o_eqn, o_neq, o_sub1, true_and]
          generalize sAI (sAF h2 244 q' (G 7 p)) 243 (24 * q' + 4) (Int32.ofNat r) = h3 at r3' ⊢
          have hM3 : (snd P (wu (w4 2 (Int32.ofNat p) (Int32.ofNat j) (M 9 p)) 4 (Int32.ofNat r)) (G 7 p)).1 1000 0 = 0 := (a0 _ _ _ _ (by decide) (by decide) (by decide)).trans hM
          have h12 : (snd P (wu (w4 2 (Int32.ofNat p) (Int32.ofNat j) (M 9 p)) 4 (Int32.ofNat r)) (G 7 p)).1 12 p = Int32.ofNat l := (a0 _ _ _ _ (by decide) (by decide) (by decide)).trans hl
          refine ⟨by decide, x_termAt r3' hM3 hp h12 h30 hrl ?_⟩
          rw [KK_ret]
          have et : tmAt (snd P (wu (w4 2 (Int32.ofNat p) (Int32.ofNat j) (M 9 p)) 4 (Int32.ofNat r)) FP.fconst0).1 p (Int32.ofNat r) = tmAt M p (Int32.ofNat r) := tm_congr (fun k => a0 _ _ _ _ (by decide) (by decide) (by decide)) (h12.trans hl.symm) _
          rw [et]
          have r4 := rm_37 (24 * q' + 5) (tmAt M p (Int32.ofNat r)) r3'
          rw [snd_wu hq' c6 (by decide)] at r4
          have hM4 : (snd P (wu (wu (w4 2 (Int32.ofNat p) (Int32.ofNat j) (M 9 p)) 4 (Int32.ofNat r)) 5 (tmAt M p (Int32.ofNat r))) (G 7 p)).1 1000 0 = 0 := (a0 _ _ _ _ (by decide) (by decide) (by decide)).trans hM
          have b13 := qA_13 r4 hM4
          have e13 : (snd P (wu (wu (w4 2 (Int32.ofNat p) (Int32.ofNat j) (M 9 p)) 4 (Int32.ofNat r)) 5 (tmAt M p (Int32.ofNat r))) FP.fconst0).1 13 p = M 13 p := a0 _ _ _ _ (by decide) (by decide) (by decide)
          have r5 := rm_37 (24 * q' + 6) (M 13 p) r4
          rw [snd_wu hq' c6 (by decide)] at r5
          have r6 := rm_37 (24 * q' + 8) (Int32.ofNat mn) r5
          rw [snd_wu hq' c6 (by decide)] at r6
          refine bX12_beat_190 ?_
          simp (disch := omega) only [q0 r3' hM3, qR_13 r3' hM3, qK_13 r3' hM3, qi_13 r3' hM3, qA_13 r3' hM3, qR_37 r3' hM3, qK_37 r3' hM3, qi_37 r3' hM3, qA_37 r3' hM3, b13, e13, o_c, o_add, o_addn, o_nadd, o_muln, o_le, o_lt, o_nle, o_len, o_nlt, o_ltn, o_eq, o_eqn, o_neq, o_sub1, true_and]
          subst hmn
          refine x_beat_222 (S := S) (F := F) (e := e) (c := c) (P := P) (w := wu (wu (wu (wu (w4 2 (Int32.ofNat p) (Int32.ofNat j) (M 9 p)) 4 (Int32.ofNat r)) 5 (tmAt M p (Int32.ofNat r))) 6 (M 13 p)) 8 (Int32.ofNat (min 3 (l - r)))) (x := G 7 p) (m := p) (p := r) (o := j) (many := min 3 (l - r)) ((ne _ _ (by decide) (by decide) (by decide)).trans hM) hp hq' c6 (by omega) (by omega) ?_ (min 3 (l - r)) 0 _ _ (Nat.zero_add _) ?_
          · intro h' hr' v9 v10
            have ew : wuE (wu (wu (wu (wu (w4 2 (Int32.ofNat p) (Int32.ofNat j) (M 9 p)) 4 (Int32.ofNat r)) 5 (tmAt M p (Int32.ofNat r))) 6 (M 13 p)) 8 (Int32.ofNat (min 3 (l - r)))) P.1 p r (min 3 (l - r)) = apW M p j := by
              rw [← apW_eq hr19 hl h30 hrl]
              funext i
              unfold wuE
              rw [ne _ _ (by omega) (by omega) (by omega)]
            rw [ew, ← ej] at hr'
            have t := ih (j + 1) h' (some (.int (Int32.ofNat r))) (some (.int (Int32.ofNat (min 3 (l - r))))) (some (.int (Int32.ofNat (24 * q')))) v9 v10 (by omega) hr'
            rw [hbs] at t
            exact t
          · have ez : ∀ w' : RW, wuE w' P.1 p r 0 = w' := by
              intro w'
              funext i
              unfold wuE
              rw [if_neg (by omega)]
            rw [ez]
            exact r6
        · obtain rfl : q' = 60 := by omega
          rw [at_full]
          refine bX12_beat_133 ⟨fun _ => ?_, fun w2 => absurd rfl w2⟩
          rw [o_addn, o_add, hmn, ← hbs]
          refine ih (j + 1) _ _ _ _ _ _ (by omega) ?_
          rw [ej, snd_full (w' := w4 2 (Int32.ofNat p) (Int32.ofNat j) (M 9 p)) (x' := FP.fconst0) hq']
          exact hr2
      simp (disch := omega) only [q0 hr hM', qR_19 hr hM', qK_19 hr hM', qi_19 hr hM', qA_19 hr hM', qR_12 hr hM', qK_12 hr hM', qi_12 hr hM', qA_12 hr hM', qR_9 hr hM', qK_9 hr hM', qi_9 hr hM', qA_9 hr hM', e9, e12, e19, o_sub, o_c, o_add, o_addn, o_nadd, o_muln, o_le, o_lt, o_nle, o_len, o_nlt, o_ltn, o_eq, o_eqn, o_neq, o_sub1, true_and]
      exact ⟨fun w3 => ⟨by decide, main (l - r) (by omega)⟩, fun w3 => ⟨by decide, main 3 (by omega)⟩⟩
theorem x_beat {na : Nat} (hr : RC S F e (M, G, c) h) (hM : M 1000 0 = 0) (hn : M 0 0 = Int32.ofNat n) (hn5 : n = 3 ∨ n = 5) (hl : ∀ m, m < n → ∃ l, M 12 m = Int32.ofNat l ∧ l ≤ 30 ∧ (M 11 m = 2 → ∀ o, o < n → o ≠ m → ∃ p, M 19 (5 * m + o) = Int32.ofNat p ∧ p ≤ l)) (hq : M 39 0 = Int32.ofNat q) (hq60 : q ≤ 60) (H : ENDH M n na) {x : Int32} {u1 u2' u3 u4 u5 u6 u7 u8 u9 : Option Value} (k3 : ¬ (0 ≤ x.toInt ∧ x.toInt < n) → ∀ h', RC S F e (u2 M 50 0 1, G, c) h' → Q (.inl (some (.int 0))) h') (k2 : ∀ m, x = Int32.ofNat m → m < n → ¬ (¬ M 5 m = 0 ∧ M 11 m = 2) → ∀ h', RC S F e (u2 M 50 0 2, G, c) h' → Q (.inl (some (.int 0))) h') (k : ∀ m, x = Int32.ofNat m → m < n → (¬ M 5 m = 0 ∧ M 11 m = 2) → ∀ h', RC S F e (endsS (beatP (stepS (u2 M 50 0 0), G) m n).1, (beatP (stepS (u2 M 50 0 0), G) m n).2, c) h' → Q (.inl (some (.int (Int32.ofNat (beatN M m n))))) h') : WP (d + 2) mX12_beat 0 [some (.ref 210), some (.int x), u1, u2', u3, u4, u5, u6, u7, u8, u9] [] h Q := by
  refine bX12_beat_0 ⟨by decide, q0 hr hM, x_isMachine hr hM hn hn5 ?_⟩
  rw [KK_ret]
  by_cases cx : 0 ≤ x.toInt ∧ x.toInt < n
  · rw [decide_eq_true cx]
    obtain ⟨m, hm, hmn⟩ := o_in cx (by omega)
    have kk := k m hm hmn
    have kb := k2 m hm hmn
    subst hm
    obtain ⟨l, hl1, hl2, hl3⟩ := hl m hmn
    have bad : ¬ (¬ M 5 m = 0 ∧ M 11 m = 2) → ∀ v2 : Int32, WP (d + 1) mX12_goes 0 [some (.ref 210), some (.int 1), some (.int 0), some (.int 1)] [] h (KK (d + 1) mX12_beat mX12_goes 37 [some (.ref 210), some (.int (Int32.ofNat m)), some (.int v2), u2', u3, u4, u5, u6, u7, u8, u9] [] Q) := by
      intro cb v2
      refine x_goes (a := true) (b := false) (g := true) hr hM ?_
      intro h1 hr1
      rw [KK_ret]
      exact bX12_beat_40 ⟨fun w => absurd rfl w, fun _ => kb cb h1 hr1⟩
    refine bX12_beat_5 ⟨fun w => absurd w (by decide), fun _ => ?_⟩
    simp (disch := omega) only [q0 hr hM, qR_5 hr hM, qK_5 hr hM, qi_5 hr hM, qA_5 hr hM, qR_11 hr hM, qK_11 hr hM, qi_11 hr hM, qA_11 hr hM, o_c, o_add, o_addn, o_nadd, o_muln, o_le, o_lt, o_nle, o_len, o_nlt, o_ltn, o_eq, o_eqn, o_neq, o_sub1, true_and]
    refine ⟨fun w => ⟨by decide, bad (fun z => z.1 w) 1⟩, fun c5 => ⟨fun w => ⟨by decide, bad (fun z => w z.2) 1⟩, fun c11 => ⟨by decide, x_goes (a := true) (b := true) (g := true) hr hM ?_⟩⟩⟩
    have c11' : M 11 m = 2 := Classical.not_not.mp c11
    have kk := kk ⟨c5, c11'⟩
    intro h1 hr1
    rw [KK_ret]
    have hM1 : u2 M 50 0 0 1000 0 = 0 := hM
    have e4 : hI h1 1204 210 = M 4 0 := qI_4 (M := u2 M 50 0 0) hr1 hM1
    have r1 : RC S F e (stepS (u2 M 50 0 0), G, c) (sI h1 1204 210 (M 4 0 + 1)) := rm_4 (M 4 0 + 1) hr1
    refine bX12_beat_40 ⟨fun _ => ⟨q0 (M := u2 M 50 0 0) hr1 hM1, ?_⟩, fun w => absurd (by decide) w⟩
    rw [e4]
    have eb : beatN (stepS (u2 M 50 0 0)) m n = beatN M m n := beatN_congr (S' := stepS (u2 M 50 0 0)) (S := M) rfl rfl m n
    refine x_beat_63 (S := S) (F := F) (e := e) (G := G) (c := c) (M := stepS (u2 M 50 0 0)) (p := m) (na := na) hM (by omega) hn (by omega) hl1 hl2 (hl3 c11') hq hq60 H ?_ n 0 _ _ _ _ _ _ (Nat.zero_add _) r1
    rw [eb]
    exact kk
  · rw [decide_eq_false cx]
    refine bX12_beat_5 ⟨fun _ => ⟨by decide, q0 hr hM, x_goes (a := false) (b := false) (g := true) hr hM ?_⟩, fun w => absurd rfl w⟩
    intro h1 hr1
    rw [KK_ret]
    exact bX12_beat_40 ⟨fun w => absurd rfl w, fun _ => k3 cx h1 hr1⟩
end REFI
