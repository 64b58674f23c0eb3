/-! ===== the reference: stand, acks ===== -/
section REFH
variable {S : SI} {F : SF} {e : EX} {M : SI} {G : SF} {c : Nat × Nat × Nat × (Nat → Int32)} {h : HP} {d : Nat} {Q : Out → HP → Prop} {n q l : Nat}
theorem ENDH_stand {m na : Nat} (H : ENDH M n na) : ENDH (standS (stepS (u2 M 50 0 0)) m) n na := H
theorem x_stand {na : Nat} (hr : RC S F e (M, G, c) h) (hM : M 1000 0 = 0) (hn : M 0 0 = Int32.ofNat n) (hn5 : n = 3 ∨ n = 5) (hl : ∀ m, m < n → ∃ l, M 12 m = Int32.ofNat l ∧ l ≤ 30) (hq : M 39 0 = Int32.ofNat q) (hq60 : q ≤ 60) (H : ENDH M n na) {x : Int32} {u1 u2' u3 u4 : Option Value} (k3 : ¬ (0 ≤ x.toInt ∧ x.toInt < n) → ∀ h', RC S F e (u2 M 50 0 1, G, c) h' → Q (.inl (some (.int 0))) h') (k2 : ∀ m, x = Int32.ofNat m → m < n → ¬ (¬ M 5 m = 0 ∧ ¬ M 11 m = 2 ∧ promB M G m = false) → ∀ h', RC S F e (u2 M 50 0 2, G, c) h' → Q (.inl (some (.int 0))) h') (k : ∀ m, x = Int32.ofNat m → m < n → (¬ M 5 m = 0 ∧ ¬ M 11 m = 2 ∧ promB M G m = false) → ∀ h', RC S F e (endsS (standP (stepS (u2 M 50 0 0), G) m n).1, (standP (stepS (u2 M 50 0 0), G) m n).2, c) h' → Q (.inl (some (.int (M 9 m + 1)))) h') : WP (d + 2) mX12_stand 0 [some (.ref 210), some (.int x), u1, u2', u3, u4] [] h Q := by
  refine bX12_stand_0 ⟨by decide, q0 hr hM, x_isMachine hr hM hn hn5 ?_⟩
  rw [KK_ret]
  by_cases cx : 0 ≤ x.toInt ∧ x.toInt < n
  · rw [decide_eq_true cx]
    obtain ⟨m, hm, hmn⟩ := o_in cx (by omega)
    have kk := k m hm hmn
    have kb := k2 m hm hmn
    subst hm
    obtain ⟨l, hl1, hl2⟩ := hl m hmn
    have bad : ¬ (¬ M 5 m = 0 ∧ ¬ M 11 m = 2 ∧ promB M G m = false) → ∀ v2 : Int32, WP (d + 1) mX12_goes 0 [some (.ref 210), some (.int (b2i true)), some (.int (b2i false)), some (.int (b2i true))] [] h (KK (d + 1) mX12_stand mX12_goes 45 [some (.ref 210), some (.int (Int32.ofNat m)), some (.int v2), u2', u3, u4] [] Q) := by
      intro cb v2
      refine x_goes hr hM ?_
      intro h1 hr1
      rw [KK_ret]
      exact bX12_stand_48 ⟨fun w => absurd rfl w, fun _ => kb cb h1 hr1⟩
    have bad' : ¬ (¬ M 5 m = 0 ∧ ¬ M 11 m = 2 ∧ promB M G m = false) → ∀ v2 : Int32, WP (d + 1) mX12_goes 0 [some (.ref 210), some (.int 1), some (.int 0), some (.int 1)] [] h (KK (d + 1) mX12_stand mX12_goes 45 [some (.ref 210), some (.int (Int32.ofNat m)), some (.int v2), u2', u3, u4] [] Q) := bad
    refine bX12_stand_5 ⟨fun w => absurd w (by decide), fun _ => ?_⟩
    simp (disch := omega) only [q0 hr hM, qR_5 hr hM, qK_5 hr hM, qi_5 hr hM, qA_5 hr hM, qR_11 hr hM, qK_11 hr hM, qi_11 hr hM, qA_11 hr hM, o_c, o_add, o_addn, o_nadd, o_muln, o_le, o_lt, o_nle, o_len, o_nlt, o_ltn, o_eq, o_eqn, o_neq, o_sub1, true_and]
    refine ⟨fun w => ⟨by decide, bad' (fun z => z.1 w) 1⟩, fun c5 => ⟨fun w => ⟨by decide, bad' (fun z => z.2.1 w) 1⟩, fun c11 => ⟨by decide, x_promises hr hM (by omega) ?_⟩⟩⟩
    rw [KK_ret]
    refine bX12_stand_36 ⟨fun w => ⟨by decide, q0 hr hM, bad' (fun z => ?_) 1⟩, fun w => ⟨by decide, q0 hr hM, x_goes (a := true) (b := true) (g := true) hr hM ?_⟩⟩
    · rw [z.2.2] at w; exact w rfl
    · have w' : promB M G m = false := by simpa [b2i_z] using w
      have kk := kk ⟨c5, c11, w'⟩
      intro h1 hr1
      rw [KK_ret]
      have hM1 : u2 M 50 0 0 1000 0 = 0 := hM
      have hr1' : RC S F e (u2 M 50 0 0, G, c) h1 := hr1
      have e4 : hI h1 1204 210 = M 4 0 := qI_4 (M := u2 M 50 0 0) hr1 hM1
      have r1 : RC S F e (stepS (u2 M 50 0 0), G, c) (sI h1 1204 210 (M 4 0 + 1)) := rm_4 (M 4 0 + 1) hr1
      have e9 : u2 M 50 0 0 9 m = M 9 m := rfl
      refine bX12_stand_48 ⟨fun _ => ?_, fun w => absurd (by decide) w⟩
      simp (disch := omega) only [q0 hr1' hM1, qR_9 hr1' hM1, qK_9 hr1' hM1, qi_9 hr1' hM1, qA_9 hr1' hM1, qR_10 hr1' hM1, qK_10 hr1' hM1, qi_10 hr1' hM1, qA_10 hr1' hM1, qR_11 hr1' hM1, qK_11 hr1' hM1, qi_11 hr1' hM1, qA_11 hr1' hM1, qR_23 hr1' hM1, qK_23 hr1' hM1, qi_23 hr1' hM1, qA_23 hr1' hM1, qR_18 hr1' hM1, qK_18 hr1' hM1, qi_18 hr1' hM1, qA_18 hr1' hM1, e4, e9, o_c, o_add, o_addn, o_nadd, o_muln, o_le, o_lt, o_nle, o_len, o_nlt, o_ltn, o_eq, o_eqn, o_neq, o_sub1, true_and]
      refine x_stand_108 (S := S) (F := F) (e := e) (G := G) (c := c) (M := standS (stepS (u2 M 50 0 0)) m) (p := m) (na := na) hM (by omega) hn (by omega) hl1 hl2 hq hq60 H ?_ n 0 _ _ (Nat.zero_add _) ?_
      · intro h' hr'
        have e9' : standS (stepS (u2 M 50 0 0)) m 9 m = M 9 m + 1 := by
          unfold standS
          rw [u2_ne (by omega), u2_ne (by omega), u2_ne (by omega), u2_ne (by omega), u2_eq]
          rfl
        rw [e9']
        exact kk h' hr'
      · exact rm_18 m (bitI (Int32.ofNat m)) (rm_23 m 0 (rm_11 m 1 (rm_10 m (Int32.ofNat m) (rm_9 m (M 9 m + 1) r1))))
  · rw [decide_eq_false cx]
    refine bX12_stand_5 ⟨fun _ => ⟨by decide, q0 hr hM, x_goes (a := false) (b := false) (g := true) hr hM ?_⟩, fun w => absurd rfl w⟩
    intro h1 hr1
    rw [KK_ret]
    exact bX12_stand_48 ⟨fun w => absurd rfl w, fun _ => k3 cx h1 hr1⟩
theorem o_div24 (q : Nat) (hq : q < 60) : Int32.ofNat (24 * q) / 24 = Int32.ofNat q := by
  have : ∀ q : Fin 60, Int32.ofNat (24 * q.1) / 24 = Int32.ofNat q.1 := by decide
  exact this ⟨q, hq⟩
theorem x_acks (hr : RC S F e (M, G, c) h) (hM : M 1000 0 = 0) {m : Nat} (hm : m < 5) (hq : M 39 0 = Int32.ofNat q) (hq60 : q ≤ 60) {o y v : Int32} {x : UInt32} {u : Option Value} (hy : y = 0 ∨ y = 1) (k : ∀ h', RC S F e ((snd (M, G) (ackW M m o y v) x).1, (snd (M, G) (ackW M m o y v) x).2, c) h' → Q (.inl none) h') : WP (d + 1) mX12_acks 0 [some (.ref 210), some (.int (Int32.ofNat m)), some (.int o), some (.int y), some (.int v), some (.float x), u] [] h Q := by
  refine bX12_acks_0 ?_
  simp (disch := omega) only [q0 hr hM, qR_9 hr hM, qK_9 hr hM, qi_9 hr hM, qA_9 hr hM, o_c, o_add, o_addn, o_nadd, o_muln, o_le, o_lt, o_nle, o_len, o_nlt, o_ltn, o_eq, o_eqn, o_neq, o_sub1, true_and]
  refine ⟨by decide, x_sends hr hM hq hq60 ?_⟩
  intro h2 hr2
  rw [KK_ret]
  by_cases c6 : q < 60
  · rw [at_ne c6]
    have hM2 : (snd (M, G) (w4 3 (Int32.ofNat m) o (M 9 m)) FP.fconst0).1 1000 0 = 0 := (snd_ne (by decide) (by decide) (by decide) _).trans hM
    have r3 := rm_37 (24 * q + 4) v hr2
    rw [snd_wu (P := (M, G)) hq c6 (by decide)] at r3
    have fin : ∀ y : Int32, RC S F e ((snd (M, G) (ackW M m o y v) x).1, (snd (M, G) (ackW M m o y v) x).2, c) (sAF (sAI (sAI h2 243 (24 * q + 4) v) 243 (24 * q + 7) y) 244 q x) := by
      intro y
      have r4 := rm_37 (24 * q + 7) y r3
      rw [snd_wu (P := (M, G)) hq c6 (by decide)] at r4
      have r5 := rm_38 q x r4
      rw [snd_cl (P := (M, G)) hq c6] at r5
      exact r5
    refine bX12_acks_13 ⟨fun w2 => absurd w2 (by rw [o_ne1 _ (by omega)]; exact id), fun _ => ?_⟩
    simp (disch := omega) only [q0 hr2 hM2, qR_37 hr2 hM2, qK_37 hr2 hM2, qi_37 hr2 hM2, qA_37 hr2 hM2, qR_38 hr2 hM2, qK_38 hr2 hM2, qi_38 hr2 hM2, qA_38 hr2 hM2, o_div24 q c6, o_c, o_add, o_addn, o_nadd, o_muln, o_le, o_lt, o_nle, o_len, o_nlt, o_ltn, o_eq, o_eqn, o_neq, o_sub1, true_and]
    refine ⟨fun w => ?_, fun w => ?_⟩
    · subst w
      exact k _ (fin 0)
    · obtain rfl : y = 1 := hy.resolve_left w
      exact k _ (fin 1)
  · obtain rfl : q = 60 := by omega
    rw [at_full]
    refine bX12_acks_13 ⟨fun _ => k _ ?_, fun w2 => absurd rfl w2⟩
    rw [snd_full (P := (M, G)) (w' := w4 3 (Int32.ofNat m) o (M 9 m)) (x' := FP.fconst0) hq]
    exact hr2
end REFH
