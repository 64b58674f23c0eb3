/-! ===== the reference: propose ===== -/
section REFP
variable {S : SI} {F : SF} {e : EX} {M : SI} {G : SF} {c : Nat × Nat × Nat × (Nat → Int32)} {h : HP} {d : Nat} {Q : Out → HP → Prop} {n q l : Nat}
theorem x_prop_190 {B : SI} {p j na : Nat} {b : Int32} (hM : B 1000 0 = 0) (hp : p < 5) (hj : j < 4) (hn : B 0 0 = Int32.ofNat n) (hn5 : n ≤ 5) (hq : B 39 0 = Int32.ofNat q) (hq60 : q ≤ 60) (H : ENDH B n na) {v3 v4 v5 : Int32} (k : ∀ h', RC S F e (endsS (toAll (fun o => prepW p o j b) FP.fconst0 p n (B, G)).1, (toAll (fun o => prepW p o j b) FP.fconst0 p n (B, G)).2, c) h' → Q (.inl (some (.int b))) h') :
    ∀ (t i : Nat) (h : HP) (u : Option Value), i + t = n → RC S F e ((toAll (fun o => prepW p o j b) FP.fconst0 p i (B, G)).1, (toAll (fun o => prepW p o j b) FP.fconst0 p i (B, G)).2, c) h → WP (d + 2) mX12_propose 190 [some (.ref 210), some (.int (Int32.ofNat p)), some (.int (Int32.ofNat j)), some (.int v3), some (.int v4), some (.int v5), some (.int b), some (.int (Int32.ofNat i)), u] [] h Q := by
  intro t
  induction t with
  | zero =>
    intro i h u hi hr
    obtain rfl : i = n := by omega
    have hM' : (toAll (fun o => prepW p o j b) FP.fconst0 p i (B, G)).1 1000 0 = 0 := (toAll_ne (by decide) (by decide) (by decide) _ _).trans hM
    have e0 : hI h 1200 210 = Int32.ofNat i := ((qI_0 hr hM').trans (toAll_ne (by decide) (by decide) (by decide) _ _)).trans hn
    refine bX12_propose_190 ⟨q0 hr hM', ?_⟩
    rw [e0, o_le _ _ (by omega) (by omega)]
    refine ⟨fun _ => ⟨by decide, x_endsH hr hM' (ENDH_all H) ?_⟩, fun w => absurd (Nat.le_refl _) w⟩
    intro h' hr'
    rw [KK_ret]
    exact bX12_propose_244 (k h' hr')
  | succ t ih =>
    intro i h u hi hr
    have ne : ∀ s x, s ≠ 37 → s ≠ 39 → s ≠ 40 → (toAll (fun o => prepW p o j b) FP.fconst0 p i (B, G)).1 s x = B s x := fun s x h1 h2 h3 => toAll_ne h1 h2 h3 _ _
    have hM' : (toAll (fun o => prepW p o j b) FP.fconst0 p i (B, G)).1 1000 0 = 0 := (ne _ _ (by decide) (by decide) (by decide)).trans hM
    have e0 : hI h 1200 210 = Int32.ofNat n := ((qI_0 hr hM').trans (ne _ _ (by decide) (by decide) (by decide))).trans hn
    obtain ⟨q', hq', hq2⟩ := toAll_cnt (P := (B, G)) (g := fun o => prepW p o j b) (c := FP.fconst0) (m := p) hq hq60 i
    refine bX12_propose_190 ⟨q0 hr hM', ?_⟩
    rw [e0, o_le _ _ (by omega) (by omega), o_eq _ _ (by omega) (by omega), o_addn]
    refine ⟨fun w => by omega, fun _ => ⟨fun w => ih (i + 1) h u (by omega) ?_, fun w => ?_⟩⟩
    · unfold toAll; rw [if_pos w]; exact hr
    · have ej : toAll (fun o => prepW p o j b) FP.fconst0 p (i + 1) (B, G) = snd (toAll (fun o => prepW p o j b) FP.fconst0 p i (B, G)) (prepW p i j b) FP.fconst0 := if_neg w
      generalize toAll (fun o => prepW p o j b) FP.fconst0 p i (B, G) = P at *
      refine ⟨by decide, x_sends hr hM' hq' hq2 ?_⟩
      intro h2 hr2
      rw [KK_ret]
      by_cases c6 : q' < 60
      · rw [at_ne c6]
        have hM2 : (snd P (w4 4 (Int32.ofNat p) (Int32.ofNat i) b) FP.fconst0).1 1000 0 = 0 := (snd_ne (by decide) (by decide) (by decide) _).trans hM'
        have r3 := rm_37 (24 * q' + 6) (Int32.ofNat j) hr2
        rw [snd_wu hq' c6 (by decide)] at r3
        refine bX12_propose_215 ⟨fun w2 => absurd w2 (by rw [o_ne1 _ (by omega)]; exact id), fun _ => ?_⟩
        simp (disch := omega) only [q0 hr2 hM2, qR_37 hr2 hM2, qK_37 hr2 hM2, qi_37 hr2 hM2, qA_37 hr2 hM2, o_c, o_add, o_addn, o_nadd, o_muln, o_le, o_lt, o_nle, o_len, o_nlt, o_ltn, o_eq, o_eqn, o_neq, o_sub1, true_and]
        refine ih (i + 1) _ _ (by omega) ?_
        rw [ej]
        exact r3
      · obtain rfl : q' = 60 := by omega
        rw [at_full]
        refine bX12_propose_215 ⟨fun _ => ?_, fun w2 => absurd rfl w2⟩
        rw [o_addn]
        refine ih (i + 1) _ _ (by omega) ?_
        rw [ej, snd_full (w' := w4 4 (Int32.ofNat p) (Int32.ofNat i) b) (x' := FP.fconst0) hq']
        exact hr2
theorem x_prop_160 {A : SI} {p j na : Nat} {b v : Int32} (hr : RC S F e (u2 (u2 (u2 A 27 (4 * p + j) b) 31 (4 * p + j) b) 32 (4 * p + j) (if A 28 (4 * p + j) = -1 then v else A 29 (4 * p + j)), G, c) h) (hM : A 1000 0 = 0) (hp : p < 5) (hj : j < 4) (hb : nextB p (A 27 (4 * p + j)) = b) (hn : A 0 0 = Int32.ofNat n) (hn5 : n ≤ 5) (hq : A 39 0 = Int32.ofNat q) (hq60 : q ≤ 60) (H : ENDH A n na) {v3 v4 : Int32} {u7 u8 : Option Value} (k : ∀ h', RC S F e (endsS (propP (A, G) p n j v).1, (propP (A, G) p n j v).2, c) h' → Q (.inl (some (.int b))) h') : WP (d + 2) mX12_propose 160 [some (.ref 210), some (.int (Int32.ofNat p)), some (.int (Int32.ofNat j)), some (.int v3), some (.int v4), some (.int (Int32.ofNat (4 * p + j))), some (.int b), u7, u8] [.int (A 28 (4 * p + j)), .int (Int32.ofNat (4 * p + j)), .ref 240] h Q := by
  have hM1 : u2 (u2 (u2 A 27 (4 * p + j) b) 31 (4 * p + j) b) 32 (4 * p + j) (if A 28 (4 * p + j) = -1 then v else A 29 (4 * p + j)) 1000 0 = 0 := hM
  refine bX12_propose_160 ?_
  simp (disch := omega) only [q0 hr hM1, qR_33 hr hM1, qK_33 hr hM1, qi_33 hr hM1, qA_33 hr hM1, qR_34 hr hM1, qK_34 hr hM1, qi_34 hr hM1, qA_34 hr hM1, qR_35 hr hM1, qK_35 hr hM1, qi_35 hr hM1, qA_35 hr hM1, qR_36 hr hM1, qK_36 hr hM1, qi_36 hr hM1, qA_36 hr hM1, o_c, o_add, o_addn, o_nadd, o_muln, o_le, o_lt, o_nle, o_len, o_nlt, o_ltn, o_eq, o_eqn, o_neq, o_sub1, true_and]
  have eP : propP (A, G) p n j v = toAll (fun o => prepW p o j b) FP.fconst0 p n (u2 (u2 (u2 (u2 (u2 (u2 (u2 A 27 (4 * p + j) b) 31 (4 * p + j) b) 32 (4 * p + j) (if A 28 (4 * p + j) = -1 then v else A 29 (4 * p + j))) 34 (4 * p + j) (A 28 (4 * p + j))) 33 (4 * p + j) (bitI (Int32.ofNat p))) 35 (4 * p + j) 0) 36 (4 * p + j) 0, G) := by
    subst hb
    rfl
  rw [eP] at k
  refine x_prop_190 (S := S) (F := F) (e := e) (G := G) (c := c) (p := p) (j := j) (na := na) (B := u2 (u2 (u2 (u2 (u2 (u2 (u2 A 27 (4 * p + j) b) 31 (4 * p + j) b) 32 (4 * p + j) (if A 28 (4 * p + j) = -1 then v else A 29 (4 * p + j))) 34 (4 * p + j) (A 28 (4 * p + j))) 33 (4 * p + j) (bitI (Int32.ofNat p))) 35 (4 * p + j) 0) 36 (4 * p + j) 0) hM hp hj hn hn5 hq hq60 H k n 0 _ _ (Nat.zero_add _) ?_
  exact rm_36 (4 * p + j) 0 (rm_35 (4 * p + j) 0 (rm_33 (4 * p + j) (bitI (Int32.ofNat p)) (rm_34 (4 * p + j) (A 28 (4 * p + j)) hr)))
theorem x_prop_82 {A : SI} {p j na tg : Nat} {v : Int32} (hr : RC S F e (A, G, c) h) (hM : A 1000 0 = 0) (hp : p < 5) (hj : j < 4) (hb0 : -1 ≤ (A 27 (4 * p + j)).toInt) (hb1 : (A 27 (4 * p + j)).toInt ≤ 100000) (htg : nextB p (A 27 (4 * p + j)) = Int32.ofNat tg) (htg2 : if (A 27 (4 * p + j)).toInt < p then tg = p else ((A 27 (4 * p + j)).toInt < tg ∧ (tg : Int) - 8 ≤ (A 27 (4 * p + j)).toInt)) (hn : A 0 0 = Int32.ofNat n) (hn5 : n ≤ 5) (hq : A 39 0 = Int32.ofNat q) (hq60 : q ≤ 60) (H : ENDH A n na) {v4 : Int32} {u7 u8 : Option Value} (k : ∀ h', RC S F e (endsS (propP (A, G) p n j v).1, (propP (A, G) p n j v).2, c) h' → Q (.inl (some (.int (Int32.ofNat tg)))) h') :
    ∀ (r x : Nat), x + 8 * r = tg → p ≤ x → WP (d + 2) mX12_propose 82 [some (.ref 210), some (.int (Int32.ofNat p)), some (.int (Int32.ofNat j)), some (.int v), some (.int v4), some (.int (Int32.ofNat (4 * p + j))), some (.int (Int32.ofNat x)), u7, u8] [] h Q := by
  have htg3 : tg ≤ 200000 := by
    by_cases z : (A 27 (4 * p + j)).toInt < p
    · rw [if_pos z] at htg2; omega
    · rw [if_neg z] at htg2; omega
  intro r
  induction r with
  | zero =>
    intro x hx hpx
    obtain rfl : x = tg := by omega
    have r1 := rm_27 (4 * p + j) (Int32.ofNat x) hr
    have r2 := rm_31 (4 * p + j) (Int32.ofNat x) r1
    have hM2 : u2 (u2 A 27 (4 * p + j) (Int32.ofNat x)) 31 (4 * p + j) (Int32.ofNat x) 1000 0 = 0 := hM
    have a28 := qA_28 r2 hM2
    have a29 := qA_29 r2 hM2
    have e28 : u2 (u2 A 27 (4 * p + j) (Int32.ofNat x)) 31 (4 * p + j) (Int32.ofNat x) 28 (4 * p + j) = A 28 (4 * p + j) := rfl
    have e29 : u2 (u2 A 27 (4 * p + j) (Int32.ofNat x)) 31 (4 * p + j) (Int32.ofNat x) 29 (4 * p + j) = A 29 (4 * p + j) := rfl
    have r3 := fun y => rm_32 (4 * p + j) y r2
    have b28 := fun y => qA_28 (r3 y) hM2
    have f28 : ∀ y, u2 (u2 (u2 A 27 (4 * p + j) (Int32.ofNat x)) 31 (4 * p + j) (Int32.ofNat x)) 32 (4 * p + j) y 28 (4 * p + j) = A 28 (4 * p + j) := fun y => rfl
    have lt : A 27 (4 * p + j) < Int32.ofNat x := by
      rw [Int32.lt_iff_toInt_lt, o_i _ (by omega)]
      by_cases z : (A 27 (4 * p + j)).toInt < p
      · rw [if_pos z] at htg2; omega
      · rw [if_neg z] at htg2; omega
    refine bX12_propose_82 ?_
    simp (disch := omega) only [q0 hr hM, qR_27 hr hM, qK_27 hr hM, qi_27 hr hM, qA_27 hr hM, qR_28 hr hM, qK_28 hr hM, qi_28 hr hM, qA_28 hr hM, qR_29 hr hM, qK_29 hr hM, qi_29 hr hM, qA_29 hr hM, qR_31 hr hM, qK_31 hr hM, qi_31 hr hM, qA_31 hr hM, qR_32 hr hM, qK_32 hr hM, qi_32 hr hM, qA_32 hr hM, qR_34 hr hM, qK_34 hr hM, qi_34 hr hM, qA_34 hr hM, a28, a29, e28, e29, b28, f28, o_c, o_add, o_addn, o_nadd, o_muln, o_le, o_lt, o_nle, o_len, o_nlt, o_ltn, o_eq, o_eqn, o_neq, o_sub1, true_and]
    refine ⟨fun _ => ⟨fun a => ?_, fun a => ?_⟩, fun z => absurd lt z⟩
    · have r4 := r3 (A 29 (4 * p + j))
      have ev : (if A 28 (4 * p + j) = -1 then v else A 29 (4 * p + j)) = A 29 (4 * p + j) := if_neg a
      rw [← ev] at r4
      have t := x_prop_160 (d := d) (v3 := v) (v4 := v4) (u7 := u7) (u8 := u8) r4 hM hp hj htg hn hn5 hq hq60 H k
      rw [ev] at t
      exact t
    · have r4 := r3 v
      have ev : (if A 28 (4 * p + j) = -1 then v else A 29 (4 * p + j)) = v := if_pos (Classical.not_not.mp a)
      rw [← ev] at r4
      have t := x_prop_160 (d := d) (v3 := v) (v4 := v4) (u7 := u7) (u8 := u8) r4 hM hp hj htg hn hn5 hq hq60 H k
      rw [ev] at t
      exact t
  | succ r ih =>
    intro x hx hpx
    have nlt : ¬ A 27 (4 * p + j) < Int32.ofNat x := by
      rw [Int32.lt_iff_toInt_lt, o_i _ (by omega)]
      by_cases z : (A 27 (4 * p + j)).toInt < p
      · rw [if_pos z] at htg2; omega
      · rw [if_neg z] at htg2; omega
    refine bX12_propose_82 ?_
    simp (disch := omega) only [q0 hr hM, qR_27 hr hM, qK_27 hr hM, qi_27 hr hM, qA_27 hr hM, o_c, true_and]
    refine ⟨fun z => absurd z nlt, fun _ => ?_⟩
    rw [o_addn]
    exact ih (x + 8) (by omega) (by omega)
theorem x_propose {na : Nat} (hr : RC S F e (M, G, c) h) (hM : M 1000 0 = 0) (hn : M 0 0 = Int32.ofNat n) (hn5 : n = 3 ∨ n = 5) (hq : M 39 0 = Int32.ofNat q) (hq60 : q ≤ 60) (H : ENDH M n na) (hb : ∀ m j, m < n → j < 4 → -1 ≤ (M 27 (4 * m + j)).toInt ∧ (M 27 (4 * m + j)).toInt ≤ 100000) {x y v : Int32} {u4 u5 u6 u7 u8 : Option Value} (k3 : ¬ ((0 ≤ x.toInt ∧ x.toInt < n) ∧ (0 ≤ y.toInt ∧ y.toInt < 4)) → ∀ h', RC S F e (u2 M 50 0 1, G, c) h' → Q (.inl (some (.int 0))) h') (k1 : ∀ m j, x = Int32.ofNat m → m < n → y = Int32.ofNat j → j < 4 → ¬ (0 ≤ v.toInt ∧ v.toInt ≤ 999) → ∀ h', RC S F e (u2 M 50 0 2, G, c) h' → Q (.inl (some (.int 0))) h') (k2 : ∀ m j, x = Int32.ofNat m → m < n → y = Int32.ofNat j → j < 4 → (0 ≤ v.toInt ∧ v.toInt ≤ 999) → M 5 m = 0 → ∀ h', RC S F e (u2 M 50 0 3, G, c) h' → Q (.inl (some (.int 0))) h') (k : ∀ m j, x = Int32.ofNat m → m < n → y = Int32.ofNat j → j < 4 → (0 ≤ v.toInt ∧ v.toInt ≤ 999) → ¬ M 5 m = 0 → ∀ h', RC S F e (endsS (propP (stepS (u2 M 50 0 0), G) m n j v).1, (propP (stepS (u2 M 50 0 0), G) m n j v).2, c) h' → Q (.inl (some (.int (nextB m (M 27 (4 * m + j)))))) h') : WP (d + 2) mX12_propose 0 [some (.ref 210), some (.int x), some (.int y), some (.int v), u4, u5, u6, u7, u8] [] h Q := by
  have ev : ((0 : Int32).toInt ≤ v.toInt ∧ v.toInt ≤ (999 : Int32).toInt) = (0 ≤ v.toInt ∧ v.toInt ≤ 999) := rfl
  have ey : ((0 : Int32).toInt ≤ y.toInt ∧ y.toInt ≤ (3 : Int32).toInt) = (0 ≤ y.toInt ∧ y.toInt < 4) := by
    have e3 : (3 : Int32).toInt = 3 := rfl
    have e0 : (0 : Int32).toInt = 0 := rfl
    rw [e3, e0]
    exact propext ⟨fun w => by omega, fun w => by omega⟩
  have bad3 : ¬ ((0 ≤ x.toInt ∧ x.toInt < n) ∧ (0 ≤ y.toInt ∧ y.toInt < 4)) → WP (d + 1) mX12_in 0 [some (.int v), some (.int 0), some (.int 999)] [] h (KK (d + 1) mX12_propose mX12_in 32 [some (.ref 210), some (.int x), some (.int y), some (.int v), some (.int 0), u5, u6, u7, u8] [.int 0, .ref 210] Q) := by
    intro cb
    refine x_in ?_
    rw [KK_ret]
    refine bX12_propose_35 ⟨fun _ => ⟨by decide, q0 hr hM, x_goes (a := false) (g := false) hr hM ?_⟩, fun w => absurd rfl w⟩
    intro h1 hr1
    rw [KK_ret]
    exact bX12_propose_57 ⟨fun w => absurd rfl w, fun _ => k3 cb h1 hr1⟩
  refine bX12_propose_0 ⟨by decide, q0 hr hM, x_isMachine hr hM hn hn5 ?_⟩
  rw [KK_ret]
  refine bX12_propose_5 ⟨fun a => bad3 ?_, fun a => x_in ?_⟩
  · rw [b2i_z] at a
    exact fun z => of_decide_eq_false a z.1
  · have cx : 0 ≤ x.toInt ∧ x.toInt < n := by simpa [b2i_z] using a
    rw [KK_ret, decide_eq_decide.mpr (iff_of_eq ey)]
    refine bX12_propose_14 ⟨fun a => bad3 ?_, fun a => x_in ?_⟩
    · rw [b2i_z] at a
      exact fun z => of_decide_eq_false a z.2
    · have cy : 0 ≤ y.toInt ∧ y.toInt < 4 := by simpa [b2i_z] using a
      obtain ⟨m, hm, hmn⟩ := o_in cx (by omega)
      obtain ⟨j, hj, hj4⟩ := o_in (n := 4) cy (by omega)
      have kk := k m j hm hmn hj hj4
      have kb1 := k1 m j hm hmn hj hj4
      have kb2 := k2 m j hm hmn hj hj4
      subst hm hj
      obtain ⟨hb0, hb1⟩ := hb m j hmn hj4
      rw [KK_ret, decide_eq_decide.mpr (iff_of_eq ev)]
      refine bX12_propose_35 ⟨fun w => absurd w (by decide), fun _ => ?_⟩
      simp (disch := omega) only [q0 hr hM, qR_5 hr hM, qK_5 hr hM, qi_5 hr hM, qA_5 hr hM, o_c, o_add, o_addn, o_nadd, o_muln, o_le, o_lt, o_nle, o_len, o_nlt, o_ltn, o_eq, o_eqn, o_neq, o_sub1, true_and]
      by_cases cv : 0 ≤ v.toInt ∧ v.toInt ≤ 999
      · rw [decide_eq_true cv]
        refine ⟨fun w => ⟨by decide, x_goes (a := true) (b := true) (g := false) hr hM ?_⟩, fun w => ⟨by decide, x_goes (a := true) (b := true) (g := true) hr hM ?_⟩⟩
        · intro h1 hr1
          rw [KK_ret]
          exact bX12_propose_57 ⟨fun w => absurd rfl w, fun _ => kb2 cv w h1 hr1⟩
        · intro h1 hr1
          rw [KK_ret]
          have hM1 : u2 M 50 0 0 1000 0 = 0 := hM
          have e4 : hI h1 1204 210 = M 4 0 := qI_4 (M := u2 M 50 0 0) hr1 hM1
          have r1 : RC S F e (stepS (u2 M 50 0 0), G, c) (sI h1 1204 210 (M 4 0 + 1)) := rm_4 (M 4 0 + 1) hr1
          refine bX12_propose_57 ⟨fun _ => ⟨q0 (M := u2 M 50 0 0) hr1 hM1, ?_⟩, fun w => absurd (by decide) w⟩
          rw [e4, o_muln, o_add]
          have e27 : stepS (u2 M 50 0 0) 27 (4 * m + j) = M 27 (4 * m + j) := rfl
          by_cases z : (M 27 (4 * m + j)).toInt < m
          · have en : nextB m (M 27 (4 * m + j)) = Int32.ofNat m := if_pos z
            have kk := kk cv w
            rw [en] at kk
            exact x_prop_82 (S := S) (F := F) (e := e) (G := G) (c := c) (A := stepS (u2 M 50 0 0)) (p := m) (j := j) (na := na) (tg := m) r1 hM (by omega) hj4 hb0 hb1 en (by rw [e27, if_pos z]) hn (by omega) hq hq60 H kk 0 m rfl (Nat.le_refl _)
          · have en : nextB m (M 27 (4 * m + j)) = Int32.ofNat (8 * ((nt (M 27 (4 * m + j)) - m) / 8 + 1) + m) := if_neg z
            have kk := kk cv w
            rw [en] at kk
            have ent : (nt (M 27 (4 * m + j)) : Int) = (M 27 (4 * m + j)).toInt := Int.toNat_of_nonneg (by omega)
            exact x_prop_82 (S := S) (F := F) (e := e) (G := G) (c := c) (A := stepS (u2 M 50 0 0)) (p := m) (j := j) (na := na) (tg := 8 * ((nt (M 27 (4 * m + j)) - m) / 8 + 1) + m) r1 hM (by omega) hj4 hb0 hb1 en (by rw [e27, if_neg z]; omega) hn (by omega) hq hq60 H kk ((nt (M 27 (4 * m + j)) - m) / 8 + 1) m (by omega) (Nat.le_refl _)
      · rw [decide_eq_false cv]
        refine ⟨fun w => ⟨by decide, x_goes (a := true) (b := false) (g := false) hr hM ?_⟩, fun w => ⟨by decide, x_goes (a := true) (b := false) (g := true) hr hM ?_⟩⟩
        · intro h1 hr1
          rw [KK_ret]
          exact bX12_propose_57 ⟨fun w => absurd rfl w, fun _ => kb1 cv h1 hr1⟩
        · intro h1 hr1
          rw [KK_ret]
          exact bX12_propose_57 ⟨fun w => absurd rfl w, fun _ => kb1 cv h1 hr1⟩
end REFP
