/-! ===== the reference: messages to all, stand, acks ===== -/
section REFG
variable {S : SI} {F : SF} {e : EX} {M : SI} {G : SF} {c : Nat × Nat × Nat × (Nat → Int32)} {h : HP} {d : Nat} {Q : Out → HP → Prop} {n q l : Nat}
theorem push_wu {w : RW} {i : Nat} {v : Int32} (hq : M 39 0 = Int32.ofNat q) (hq60 : q < 60) (hi : i < 24) : u2 (pushS M w) 37 (24 * q + i) v = pushS M (wu w i v) := by
  have hn : nt (M 39 0) = q := nt_of hq (by omega)
  funext s k
  show (if s = 37 ∧ k = 24 * q + i then v else pushS M w s k) = _
  unfold pushS wu
  rw [hn]
  by_cases c1 : s = 37 ∧ k = 24 * q + i
  · rw [if_pos c1, if_pos (by omega), if_pos (by omega)]
  · rw [if_neg c1]
    by_cases c2 : s = 37 ∧ (q < 60 ∧ 24 * q ≤ k ∧ k < 24 * q + 24)
    · rw [if_pos c2, if_pos c2, if_neg (by omega)]
    · rw [if_neg c2, if_neg c2]
theorem snd_wu {P : PT} {w : RW} {x : UInt32} {i : Nat} {v : Int32} (hq : P.1 39 0 = Int32.ofNat q) (hq60 : q < 60) (hi : i < 24) : u2 (snd P w x).1 37 (24 * q + i) v = (snd P (wu w i v) x).1 := push_wu (M := sentS P.1) hq hq60 hi
theorem snd_cl {P : PT} {w : RW} {x y : UInt32} (hq : P.1 39 0 = Int32.ofNat q) (hq60 : q < 60) : u2 (snd P w x).2 38 q y = (snd P w y).2 := by
  have hn : nt (P.1 39 0) = q := nt_of hq (by omega)
  funext s k
  show (if s = 38 ∧ k = q then y else pushF P.1 P.2 x s k) = pushF P.1 P.2 y s k
  unfold pushF
  rw [hn]
  by_cases c1 : s = 38 ∧ k = q
  · rw [if_pos c1, if_pos (by omega)]
  · rw [if_neg c1, if_neg (by omega), if_neg (by omega)]
theorem snd_full {P : PT} {w w' : RW} {x x' : UInt32} (hq : P.1 39 0 = Int32.ofNat 60) : snd P w x = snd P w' x' := by
  unfold snd
  rw [push_full (M := sentS P.1) hq, push_full (M := sentS P.1) hq, pushF_full hq, pushF_full hq]
theorem at_ne (hq60 : q < 60) : atI q = Int32.ofNat (24 * q) := if_pos hq60
theorem at_full : atI 60 = -1 := rfl
theorem wu_same {w w' : RW} (h : ∀ j, w j = w' j) : w = w' := funext h
theorem tm_congr {S1 S2 : SI} {m : Nat} (h1 : ∀ k, S1 14 k = S2 14 k) (h2 : S1 12 m = S2 12 m) (x : Int32) : tmAt S1 m x = tmAt S2 m x := by
  unfold tmAt
  rw [h2, h1]
theorem ENDH_all {g : Nat → RW} {x : UInt32} {m j na : Nat} (H : ENDH M n na) : ENDH (toAll g x m j (M, G)).1 n na := by
  unfold ENDH
  refine ⟨?_, H.2.1, ?_, H.2.2.2.1, fun a ha => ?_, fun i hi => ?_⟩
  · rw [toAll_ne (by decide) (by decide) (by decide)]; exact H.1
  · rw [toAll_ne (by decide) (by decide) (by decide)]; exact H.2.2.1
  · rw [toAll_ne (by decide) (by decide) (by decide)]; exact H.2.2.2.2.1 a ha
  · rw [toAll_ne (by decide) (by decide) (by decide)]; exact H.2.2.2.2.2 i hi
theorem ends_9 {p : Nat} (k : Nat) (hp : p ≠ 46) : endsS M p k = M p k := if_neg (fun w => hp w.1)
theorem x_stand_108 {p na : Nat} (hM : M 1000 0 = 0) (hp : p < 5) (hn : M 0 0 = Int32.ofNat n) (hn5 : n ≤ 5) (hl : M 12 p = Int32.ofNat l) (h30 : l ≤ 30) (hq : M 39 0 = Int32.ofNat q) (hq60 : q ≤ 60) (H : ENDH M n na) {b : Int32} (k : ∀ h', RC S F e (endsS (toAll (askW M p) FP.fconst0 p n (M, G)).1, (toAll (askW M p) FP.fconst0 p n (M, G)).2, c) h' → Q (.inl (some (.int (M 9 p)))) h') :
    ∀ (m j : Nat) (h : HP) (u : Option Value), j + m = n → RC S F e ((toAll (askW M p) FP.fconst0 p j (M, G)).1, (toAll (askW M p) FP.fconst0 p j (M, G)).2, c) h → WP (d + 2) mX12_stand 108 [some (.ref 210), some (.int (Int32.ofNat p)), some (.int b), some (.int (Int32.ofNat p)), some (.int (Int32.ofNat j)), u] [] h Q := by
  intro m
  induction m with
  | zero =>
    intro j h u hj hr
    obtain rfl : j = n := by omega
    have hM' : (toAll (askW M p) FP.fconst0 p j (M, G)).1 1000 0 = 0 := (toAll_ne (by decide) (by decide) (by decide) _ _).trans hM
    have e0 : hI h 1200 210 = Int32.ofNat j := ((qI_0 hr hM').trans (toAll_ne (by decide) (by decide) (by decide) _ _)).trans hn
    refine bX12_stand_108 ⟨q0 hr hM', ?_⟩
    rw [e0, o_le _ _ (by omega) (by omega)]
    refine ⟨fun _ => ⟨by decide, x_endsH hr hM' (ENDH_all H) ?_⟩, fun w => absurd (Nat.le_refl _) w⟩
    intro h' hr'
    rw [KK_ret]
    refine bX12_stand_190 ?_
    have hM2 : endsS (toAll (askW M p) FP.fconst0 p j (M, G)).1 1000 0 = 0 := (ends_9 _ (by decide)).trans hM'
    have e9 : endsS (toAll (askW M p) FP.fconst0 p j (M, G)).1 9 p = M 9 p := (ends_9 _ (by decide)).trans (toAll_ne (by decide) (by decide) (by decide) _ _)
    simp (disch := omega) only [q0 hr' hM2, qR_9 hr' hM2, qK_9 hr' hM2, qi_9 hr' hM2, qA_9 hr' hM2, e9, o_c, o_add, o_addn, o_nadd, o_muln, o_le, o_lt, o_nle, o_len, o_nlt, o_ltn, o_eq, o_eqn, o_neq, o_sub1, true_and]
    exact k h' hr'
  | succ m ih =>
    intro j h u hj hr
    have hM' : (toAll (askW M p) FP.fconst0 p j (M, G)).1 1000 0 = 0 := (toAll_ne (by decide) (by decide) (by decide) _ _).trans hM
    have e0 : hI h 1200 210 = Int32.ofNat n := ((qI_0 hr hM').trans (toAll_ne (by decide) (by decide) (by decide) _ _)).trans hn
    have e9 : (toAll (askW M p) FP.fconst0 p j (M, G)).1 9 p = M 9 p := toAll_ne (by decide) (by decide) (by decide) _ _
    obtain ⟨q', hq', hq2⟩ := toAll_cnt (P := (M, G)) (g := askW M p) (c := FP.fconst0) (m := p) hq hq60 j
    refine bX12_stand_108 ⟨q0 hr hM', ?_⟩
    rw [e0, o_le _ _ (by omega) (by omega), o_eq _ _ (by omega) (by omega), o_addn]
    refine ⟨fun w => by omega, fun _ => ⟨fun w => ih (j + 1) h u (by omega) ?_, fun w => ?_⟩⟩
    · unfold toAll; rw [if_pos w]; exact hr
    · simp (disch := omega) only [q0 hr hM', qR_9 hr hM', qK_9 hr hM', qi_9 hr hM', qA_9 hr hM', e9, o_c, o_add, o_addn, o_nadd, o_muln, o_le, o_lt, o_nle, o_len, o_nlt, o_ltn, o_eq, o_eqn, o_neq, o_sub1, true_and]
      have es : ∀ x, toAll (askW M p) FP.fconst0 p (j + 1) (M, G) = x ↔ snd (toAll (askW M p) FP.fconst0 p j (M, G)) (askW M p j) FP.fconst0 = x := by
        intro x
        have : toAll (askW M p) FP.fconst0 p (j + 1) (M, G) = snd (toAll (askW M p) FP.fconst0 p j (M, G)) (askW M p j) FP.fconst0 := if_neg w
        rw [this]
      have ej := (es _).mpr rfl
      refine ⟨by decide, x_sends hr hM' hq' hq2 ?_⟩
      intro h2 hr2
      rw [KK_ret]
      by_cases c6 : q' < 60
      · rw [at_ne c6]
        have hM2 : (snd (toAll (askW M p) FP.fconst0 p j (M, G)) (w4 0 (Int32.ofNat p) (Int32.ofNat j) (M 9 p)) FP.fconst0).1 1000 0 = 0 := (snd_ne (by decide) (by decide) (by decide) _).trans hM'
        have e12 : (snd (toAll (askW M p) FP.fconst0 p j (M, G)) (w4 0 (Int32.ofNat p) (Int32.ofNat j) (M 9 p)) FP.fconst0).1 12 p = Int32.ofNat l := ((snd_ne (by decide) (by decide) (by decide) _).trans (toAll_ne (by decide) (by decide) (by decide) _ _)).trans hl
        have r3 := rm_37 (24 * q' + 4) (Int32.ofNat l) hr2
        rw [snd_wu hq' c6 (by decide)] at r3
        have hM3 : (snd (toAll (askW M p) FP.fconst0 p j (M, G)) (wu (w4 0 (Int32.ofNat p) (Int32.ofNat j) (M 9 p)) 4 (Int32.ofNat l)) FP.fconst0).1 1000 0 = 0 := (snd_ne (by decide) (by decide) (by decide) _).trans hM'
        have e12' : (snd (toAll (askW M p) FP.fconst0 p j (M, G)) (wu (w4 0 (Int32.ofNat p) (Int32.ofNat j) (M 9 p)) 4 (Int32.ofNat l)) FP.fconst0).1 12 p = Int32.ofNat l := ((snd_ne (by decide) (by decide) (by decide) _).trans (toAll_ne (by decide) (by decide) (by decide) _ _)).trans hl
        have a12 := qA_12 r3 hM3
        refine bX12_stand_137 ⟨fun w2 => absurd w2 (by rw [o_ne1 _ (by omega)]; exact id), fun _ => ?_⟩
        simp (disch := omega) only [q0 hr2 hM2, qR_12 hr2 hM2, qK_12 hr2 hM2, qi_12 hr2 hM2, qA_12 hr2 hM2, qR_37 hr2 hM2, qK_37 hr2 hM2, qi_37 hr2 hM2, qA_37 hr2 hM2, e12, a12, e12', o_c, o_add, o_addn, o_nadd, o_muln, o_le, o_lt, o_nle, o_len, o_nlt, o_ltn, o_eq, o_eqn, o_neq, o_sub1, true_and]
        refine ⟨by decide, x_termAt r3 hM3 hp e12' h30 (Nat.le_refl _) ?_⟩
        rw [KK_ret]
        refine bX12_stand_179 ?_
        simp (disch := omega) only [q0 r3 hM3, qR_37 r3 hM3, qK_37 r3 hM3, qi_37 r3 hM3, qA_37 r3 hM3, o_c, o_add, o_addn, o_nadd, o_muln, o_le, o_lt, o_nle, o_len, o_nlt, o_ltn, o_eq, o_eqn, o_neq, o_sub1, true_and]
        have r4 := rm_37 (24 * q' + 5) (tmAt (snd (toAll (askW M p) FP.fconst0 p j (M, G)) (wu (w4 0 (Int32.ofNat p) (Int32.ofNat j) (M 9 p)) 4 (Int32.ofNat l)) FP.fconst0).1 p (Int32.ofNat l)) r3
        refine ih (j + 1) _ _ (by omega) ?_
        rw [ej]
        rw [snd_wu hq' c6 (by decide)] at r4
        have et : tmAt (snd (toAll (askW M p) FP.fconst0 p j (M, G)) (wu (w4 0 (Int32.ofNat p) (Int32.ofNat j) (M 9 p)) 4 (Int32.ofNat l)) FP.fconst0).1 p (Int32.ofNat l) = tmAt M p (Int32.ofNat l) := tm_congr (fun k => (snd_ne (by decide) (by decide) (by decide) _).trans (toAll_ne (by decide) (by decide) (by decide) _ _)) (e12'.trans hl.symm) _
        have ew : askW M p j = wu (wu (w4 0 (Int32.ofNat p) (Int32.ofNat j) (M 9 p)) 4 (Int32.ofNat l)) 5 (tmAt M p (Int32.ofNat l)) := by
          unfold askW
          rw [hl]
        rw [ew, ← et]
        exact r4
      · obtain rfl : q' = 60 := by omega
        rw [at_full]
        refine bX12_stand_137 ⟨fun _ => ?_, fun w2 => absurd rfl w2⟩
        rw [o_addn]
        refine ih (j + 1) _ _ (by omega) ?_
        rw [ej, snd_full (w' := w4 0 (Int32.ofNat p) (Int32.ofNat j) (M 9 p)) (x' := FP.fconst0) hq']
        exact hr2
end REFG
