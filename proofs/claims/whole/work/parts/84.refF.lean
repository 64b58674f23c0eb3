/-! ===== the reference: promised, propose ===== -/
section REFO
variable {S : SI} {F : SF} {e : EX} {M : SI} {G : SF} {c : Nat × Nat × Nat × (Nat → Int32)} {h : HP} {d : Nat} {Q : Out → HP → Prop} {n q l : Nat}
theorem x_prom_167 {B : SI} {p j : Nat} {w : RW} (hM : B 1000 0 = 0) (hp : p < 5) (hj : j < 4) (hw : ∀ i, i < 24 → B 49 i = w i) (hn : B 0 0 = Int32.ofNat n) (hn5 : n ≤ 5) (hq : B 39 0 = Int32.ofNat q) (hq60 : q ≤ 60) (k : ∀ h', RC S F e ((toAll (fun o => accW B p (4 * p + j) o (w 6)) FP.fconst0 p n (B, G)).1, (toAll (fun o => accW B p (4 * p + j) o (w 6)) FP.fconst0 p n (B, G)).2, c) h' → Q (.inl none) h') :
    ∀ (t i : Nat) (h : HP) (u : Option Value), i + t = n → RC S F e ((toAll (fun o => accW B p (4 * p + j) o (w 6)) FP.fconst0 p i (B, G)).1, (toAll (fun o => accW B p (4 * p + j) o (w 6)) FP.fconst0 p i (B, G)).2, c) h → WP (d + 1) mX12_promised 167 [some (.ref 210), some (.int (Int32.ofNat p)), some (.int (Int32.ofNat (4 * p + j))), some (.int (Int32.ofNat i)), u] [] h Q := by
  intro t
  induction t with
  | zero =>
    intro i h u hi hr
    obtain rfl : i = n := by omega
    have hM' : (toAll (fun o => accW B p (4 * p + j) o (w 6)) FP.fconst0 p i (B, G)).1 1000 0 = 0 := (toAll_ne (by decide) (by decide) (by decide) _ _).trans hM
    have e0 : hI h 1200 210 = Int32.ofNat i := ((qI_0 hr hM').trans (toAll_ne (by decide) (by decide) (by decide) _ _)).trans hn
    refine bX12_promised_167 ⟨q0 hr hM', ?_⟩
    rw [e0, o_le _ _ (by omega) (by omega)]
    exact ⟨fun _ => k h hr, fun w => absurd (Nat.le_refl _) w⟩
  | succ t ih =>
    intro i h u hi hr
    have ne : ∀ s x, s ≠ 37 → s ≠ 39 → s ≠ 40 → (toAll (fun o => accW B p (4 * p + j) o (w 6)) FP.fconst0 p i (B, G)).1 s x = B s x := fun s x h1 h2 h3 => toAll_ne h1 h2 h3 _ _
    have hM' : (toAll (fun o => accW B p (4 * p + j) o (w 6)) FP.fconst0 p i (B, G)).1 1000 0 = 0 := (ne _ _ (by decide) (by decide) (by decide)).trans hM
    have e0 : hI h 1200 210 = Int32.ofNat n := ((qI_0 hr hM').trans (ne _ _ (by decide) (by decide) (by decide))).trans hn
    have e31 : (toAll (fun o => accW B p (4 * p + j) o (w 6)) FP.fconst0 p i (B, G)).1 31 (4 * p + j) = B 31 (4 * p + j) := ne _ _ (by decide) (by decide) (by decide)
    obtain ⟨q', hq', hq2⟩ := toAll_cnt (P := (B, G)) (g := fun o => accW B p (4 * p + j) o (w 6)) (c := FP.fconst0) (m := p) hq hq60 i
    refine bX12_promised_167 ⟨q0 hr hM', ?_⟩
    rw [e0, o_le _ _ (by omega) (by omega), o_eq _ _ (by omega) (by omega), o_addn]
    refine ⟨fun wn => by omega, fun _ => ⟨fun wn => ih (i + 1) h u (by omega) ?_, fun wn => ?_⟩⟩
    · unfold toAll; rw [if_pos wn]; exact hr
    · have ej : toAll (fun o => accW B p (4 * p + j) o (w 6)) FP.fconst0 p (i + 1) (B, G) = snd (toAll (fun o => accW B p (4 * p + j) o (w 6)) FP.fconst0 p i (B, G)) (accW B p (4 * p + j) i (w 6)) FP.fconst0 := if_neg wn
      simp (disch := omega) only [q0 hr hM', qR_31 hr hM', qK_31 hr hM', qi_31 hr hM', qA_31 hr hM', e31, o_c, o_add, o_addn, o_nadd, o_muln, o_le, o_lt, o_nle, o_len, o_nlt, o_ltn, o_eq, o_eqn, o_neq, o_sub1, true_and]
      generalize toAll (fun o => accW B p (4 * p + j) o (w 6)) FP.fconst0 p i (B, G) = P at *
      refine ⟨by decide, x_sends hr hM' hq' hq2 ?_⟩
      intro h2 hr2
      rw [KK_ret]
      by_cases c6 : q' < 60
      · rw [at_ne c6]
        have a0 : ∀ (w' : RW) s x, s ≠ 37 → s ≠ 39 → s ≠ 40 → (snd P w' FP.fconst0).1 s x = B s x := fun w' s x h1 h2 h3 => (snd_ne h1 h2 h3 x).trans (ne s x h1 h2 h3)
        have hM2 : (snd P (w4 6 (Int32.ofNat p) (Int32.ofNat i) (B 31 (4 * p + j))) FP.fconst0).1 1000 0 = 0 := (a0 _ _ _ (by decide) (by decide) (by decide)).trans hM
        have e6 : (snd P (w4 6 (Int32.ofNat p) (Int32.ofNat i) (B 31 (4 * p + j))) FP.fconst0).1 49 6 = w 6 := (a0 _ _ _ (by decide) (by decide) (by decide)).trans (hw 6 (by decide))
        have r3 := rm_37 (24 * q' + 6) (w 6) hr2
        rw [snd_wu hq' c6 (by decide)] at r3
        have hM3 : (snd P (wu (w4 6 (Int32.ofNat p) (Int32.ofNat i) (B 31 (4 * p + j))) 6 (w 6)) FP.fconst0).1 1000 0 = 0 := (a0 _ _ _ (by decide) (by decide) (by decide)).trans hM
        have b32 := qA_32 r3 hM3
        have e32 : (snd P (wu (w4 6 (Int32.ofNat p) (Int32.ofNat i) (B 31 (4 * p + j))) 6 (w 6)) FP.fconst0).1 32 (4 * p + j) = B 32 (4 * p + j) := a0 _ _ _ (by decide) (by decide) (by decide)
        have r4 := rm_37 (24 * q' + 9) (B 32 (4 * p + j)) r3
        rw [snd_wu hq' c6 (by decide)] at r4
        refine bX12_promised_194 ⟨fun w2 => absurd w2 (by rw [o_ne1 _ (by omega)]; exact id), fun _ => ?_⟩
        simp (disch := omega) only [q0 hr2 hM2, qR_32 hr2 hM2, qK_32 hr2 hM2, qi_32 hr2 hM2, qA_32 hr2 hM2, qR_37 hr2 hM2, qK_37 hr2 hM2, qi_37 hr2 hM2, qA_37 hr2 hM2, qR_49 hr2 hM2, qK_49 hr2 hM2, qi_49 hr2 hM2, qA_49 hr2 hM2, ti_6 hr2 hM2, tc_6, e6, b32, e32, o_c, o_add, o_addn, o_nadd, o_muln, o_le, o_lt, o_nle, o_len, o_nlt, o_ltn, o_eq, o_eqn, o_neq, o_sub1, true_and]
        refine ih (i + 1) _ _ (by omega) ?_
        rw [ej]
        exact r4
      · obtain rfl : q' = 60 := by omega
        rw [at_full]
        refine bX12_promised_194 ⟨fun _ => ?_, fun w2 => absurd rfl w2⟩
        rw [o_addn]
        refine ih (i + 1) _ _ (by omega) ?_
        rw [ej, snd_full (w' := w4 6 (Int32.ofNat p) (Int32.ofNat i) (B 31 (4 * p + j))) (x' := FP.fconst0) hq']
        exact hr2
theorem x_prom_117 {T : SI} {m j : Nat} {w : RW} (hr : RC S F e (T, G, c) h) (hM : T 1000 0 = 0) (hm : m < 5) (hj : j < 4) (hw : ∀ i, i < 24 → T 49 i = w i) (hn : T 0 0 = Int32.ofNat n) (hn5 : n ≤ 5) (hq : T 39 0 = Int32.ofNat q) (hq60 : q ≤ 60) {u3 u4 : Option Value} (k : ∀ h', RC S F e ((if popN (T 33 (4 * m + j)) < mostI T then (T, G) else toAll (fun o => accW (goOnS T m (4 * m + j)) m (4 * m + j) o (w 6)) FP.fconst0 m (nt (T 0 0)) (goOnS T m (4 * m + j), G)).1, (if popN (T 33 (4 * m + j)) < mostI T then (T, G) else toAll (fun o => accW (goOnS T m (4 * m + j)) m (4 * m + j) o (w 6)) FP.fconst0 m (nt (T 0 0)) (goOnS T m (4 * m + j), G)).2, c) h' → Q (.inl none) h') : WP (d + 1) mX12_promised 117 [some (.ref 210), some (.int (Int32.ofNat m)), some (.int (Int32.ofNat (4 * m + j))), u3, u4] [.int (popN (T 33 (4 * m + j)))] h Q := by
  have en : nt (T 0 0) = n := nt_of hn (by omega)
  rw [en] at k
  refine bX12_promised_117 ⟨by decide, q0 hr hM, x_most hr hM ?_⟩
  rw [KK_ret]
  have r1 := rm_35 (4 * m + j) 1 hr
  have hM1 : u2 T 35 (4 * m + j) 1 1000 0 = 0 := hM
  have a31 := qA_31 r1 hM1
  have e31 : u2 T 35 (4 * m + j) 1 31 (4 * m + j) = T 31 (4 * m + j) := rfl
  have r2 := rm_28 (4 * m + j) (T 31 (4 * m + j)) r1
  have hM2 : u2 (u2 T 35 (4 * m + j) 1) 28 (4 * m + j) (T 31 (4 * m + j)) 1000 0 = 0 := hM
  have a32 := qA_32 r2 hM2
  have e32 : u2 (u2 T 35 (4 * m + j) 1) 28 (4 * m + j) (T 31 (4 * m + j)) 32 (4 * m + j) = T 32 (4 * m + j) := rfl
  refine bX12_promised_121 ?_
  simp (disch := omega) only [q0 hr hM, qR_35 hr hM, qK_35 hr hM, qi_35 hr hM, qA_35 hr hM, qR_31 hr hM, qK_31 hr hM, qi_31 hr hM, qA_31 hr hM, qR_28 hr hM, qK_28 hr hM, qi_28 hr hM, qA_28 hr hM, qR_32 hr hM, qK_32 hr hM, qi_32 hr hM, qA_32 hr hM, qR_29 hr hM, qK_29 hr hM, qi_29 hr hM, qA_29 hr hM, qR_36 hr hM, qK_36 hr hM, qi_36 hr hM, qA_36 hr hM, a31, e31, a32, e32, o_c, o_add, o_addn, o_nadd, o_muln, o_le, o_lt, o_nle, o_len, o_nlt, o_ltn, o_eq, o_eqn, o_neq, o_sub1, true_and]
  refine ⟨fun a => bX12_promised_165 ?_, fun a => ?_⟩
  · rw [if_neg (Int32.not_lt.mpr a)] at k
    refine x_prom_167 (S := S) (F := F) (e := e) (G := G) (c := c) (B := goOnS T m (4 * m + j)) (p := m) (j := j) (w := w) hM hm hj hw hn hn5 hq hq60 k n 0 _ _ (Nat.zero_add _) ?_
    exact rm_36 (4 * m + j) (bitI (Int32.ofNat m)) (rm_29 (4 * m + j) (T 32 (4 * m + j)) r2)
  · rw [if_pos (Int32.not_le.mp a)] at k
    exact k h hr
theorem x_promised {m j : Nat} {w : RW} (hr : RC S F e (M, G, c) h) (hM : M 1000 0 = 0) (hm : m < 5) (hj : j < 4) (hw : ∀ i, i < 24 → M 49 i = w i) (hw6 : w 6 = Int32.ofNat j) (hn : M 0 0 = Int32.ofNat n) (hn5 : n ≤ 5) (hz : M 35 (4 * m + j) = 0 ∨ M 35 (4 * m + j) = 1) (hq : M 39 0 = Int32.ofNat q) (hq60 : q ≤ 60) {u2' u3 u4 : Option Value} (k : ∀ h', RC S F e ((promisedP (M, G) m w).1, (promisedP (M, G) m w).2, c) h' → Q (.inl none) h') : WP (d + 1) mX12_promised 0 [some (.ref 210), some (.int (Int32.ofNat m)), u2', u3, u4] [] h Q := by
  have w1 := hw 1 (by decide)
  have w3 := hw 3 (by decide)
  have w4 := hw 4 (by decide)
  have w5 := hw 5 (by decide)
  have w6 := (hw 6 (by decide)).trans hw6
  have en : nt (w 6) = j := nt_of hw6 (by omega)
  unfold promisedP at k
  simp only [en] at k
  have r1 := rm_33 (4 * m + j) (M 33 (4 * m + j) ||| (1 : Int32) <<< (w 1 &&& 31)) hr
  have hM1 : u2 M 33 (4 * m + j) (M 33 (4 * m + j) ||| (1 : Int32) <<< (w 1 &&& 31)) 1000 0 = 0 := hM
  have a49 := qA_49 r1 hM1
  have e4 : u2 M 33 (4 * m + j) (M 33 (4 * m + j) ||| (1 : Int32) <<< (w 1 &&& 31)) 49 4 = w 4 := w4
  refine bX12_promised_0 ?_
  simp (disch := omega) only [q0 hr hM, qR_49 hr hM, qK_49 hr hM, qi_49 hr hM, qA_49 hr hM, qR_27 hr hM, qK_27 hr hM, qi_27 hr hM, qA_27 hr hM, qR_31 hr hM, qK_31 hr hM, qi_31 hr hM, qA_31 hr hM, qR_33 hr hM, qK_33 hr hM, qi_33 hr hM, qA_33 hr hM, qR_35 hr hM, qK_35 hr hM, qi_35 hr hM, qA_35 hr hM, ti_1 hr hM, tc_1, ti_3 hr hM, tc_3, ti_4 hr hM, tc_4, ti_6 hr hM, tc_6, w1, w3, w6, a49, e4, o_c, o_add, o_addn, o_nadd, o_muln, o_le, o_lt, o_nle, o_len, o_nlt, o_ltn, o_eq, o_eqn, o_neq, o_sub1, true_and]
  refine ⟨fun a => ?_, fun a => ⟨fun b => ?_, fun b => ⟨fun f => bX12_promised_75 ?_, fun f => ?_⟩⟩⟩
  · rw [if_pos (Or.inl a)] at k
    exact k h hr
  · rw [if_pos (Or.inr (Or.inl b))] at k
    exact k h hr
  · have f' : ¬ M 35 (4 * m + j) = 1 := by rw [f]; decide
    rw [if_neg (fun z => z.elim a (fun z => z.elim b f'))] at k
    have f34 : u2 M 33 (4 * m + j) (M 33 (4 * m + j) ||| (1 : Int32) <<< (w 1 &&& 31)) 34 (4 * m + j) = M 34 (4 * m + j) := rfl
    have r2 := rm_34 (4 * m + j) (w 4) r1
    have hM2 : u2 (u2 M 33 (4 * m + j) (M 33 (4 * m + j) ||| (1 : Int32) <<< (w 1 &&& 31))) 34 (4 * m + j) (w 4) 1000 0 = 0 := hM
    have b49 := qA_49 r2 hM2
    have e5 : u2 (u2 M 33 (4 * m + j) (M 33 (4 * m + j) ||| (1 : Int32) <<< (w 1 &&& 31))) 34 (4 * m + j) (w 4) 49 5 = w 5 := w5
    have r3 := rm_32 (4 * m + j) (w 5) r2
    have hM3 : u2 (u2 (u2 M 33 (4 * m + j) (M 33 (4 * m + j) ||| (1 : Int32) <<< (w 1 &&& 31))) 34 (4 * m + j) (w 4)) 32 (4 * m + j) (w 5) 1000 0 = 0 := hM
    have b33 := qA_33 r3 hM3
    simp (disch := omega) only [q0 r1 hM1, qR_32 r1 hM1, qK_32 r1 hM1, qi_32 r1 hM1, qA_32 r1 hM1, qR_33 r1 hM1, qK_33 r1 hM1, qi_33 r1 hM1, qA_33 r1 hM1, qR_34 r1 hM1, qK_34 r1 hM1, qi_34 r1 hM1, qA_34 r1 hM1, qR_49 r1 hM1, qK_49 r1 hM1, qi_49 r1 hM1, qA_49 r1 hM1, ti_4 r1 hM1, tc_4, ti_5 r1 hM1, tc_5, f34, e4, b49, e5, b33, o_c, o_add, o_addn, o_nadd, o_muln, o_le, o_lt, o_nle, o_len, o_nlt, o_ltn, o_eq, o_eqn, o_neq, o_sub1, true_and]
    unfold tellS at k
    refine ⟨fun g => ?_, fun g => ?_⟩
    · simp only [if_neg (Int32.not_lt.mpr g)] at k
      refine bX12_promised_114 (x_bits ?_)
      rw [KK_ret]
      exact x_prom_117 r1 hM1 hm hj hw hn hn5 hq hq60 k
    · simp only [if_pos (Int32.not_le.mp g)] at k
      refine bX12_promised_114 (x_bits ?_)
      rw [KK_ret]
      exact x_prom_117 r3 hM3 hm hj hw hn hn5 hq hq60 k
  · rw [if_pos (Or.inr (Or.inr (hz.resolve_left f)))] at k
    exact k h hr
end REFO
