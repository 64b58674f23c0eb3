/-! ===== the reference: read ===== -/
section REFS
variable {S : SI} {F : SF} {e : EX} {M : SI} {G : SF} {c : Nat × Nat × Nat × (Nat → Int32)} {h : HP} {d : Nat} {Q : Out → HP → Prop} {n q l : Nat}
theorem outd_cg {S1 S2 : SI} {i : Nat} {a s : Int32} (h1 : S1 15 = S2 15) (h2 : S1 16 = S2 16) : ∀ j, outd S1 i a s j = outd S2 i a s j := by
  intro j
  induction j with
  | zero => rfl
  | succ j ih =>
    unfold outd
    rw [h1, h2, ih]
theorem valU_cg {S1 S2 : SI} {i : Nat} (h1 : S1 15 = S2 15) (h2 : S1 16 = S2 16) (h3 : S1 17 = S2 17) : ∀ j, valU S1 i j = valU S2 i j := by
  intro j
  induction j with
  | zero => rfl
  | succ j ih =>
    unfold valU
    rw [ih, h3, outd_cg h1 h2, h1, h2]
/-- whether a machine can answer a read, in the reference's way -/
def readR (M : SI) (G : SF) (m na : Nat) : Prop := holB M G m = true ∧ 0 < (M 13 m).toInt ∧ tmAt M m (M 13 m) = M 9 m ∧ na < 14
theorem x_read {na : Nat} (hr : RC S F e (M, G, c) h) (hM : M 1000 0 = 0) (hn : M 0 0 = Int32.ofNat n) (hn5 : n = 3 ∨ n = 5) (hl : ∀ m, m < n → ∃ l ci, M 12 m = Int32.ofNat l ∧ l ≤ 30 ∧ M 13 m = Int32.ofNat ci ∧ ci ≤ l) (H : ENDH M n na) {x : Int32} {u2' u3 u4 : Option Value} (k3 : ¬ (0 ≤ x.toInt ∧ x.toInt < n) → ∀ h', RC S F e (u2 M 50 0 1, G, c) h' → Q (.inl (some (.int 0))) h') (k2 : ∀ m, x = Int32.ofNat m → m < n → ¬ readR M G m na → ∀ h', RC S F e (u2 M 50 0 2, G, c) h' → Q (.inl (some (.int 0))) h') (k : ∀ m, x = Int32.ofNat m → m < n → readR M G m na → ∀ h', RC S F e (endsS (readS (stepS (u2 M 50 0 0)) m), G, c) h' → Q (.inl (some (.int (valU M m (nt (M 13 m)))))) h') : WP (d + 2) mX12_read 0 [some (.ref 210), some (.int x), u2', u3, u4] [] h Q := by
  obtain ⟨_, _, ha, ha14, hz, hcm⟩ := id H
  refine bX12_read_0 ⟨by decide, q0 hr hM, x_isMachine hr hM hn hn5 ?_⟩
  rw [KK_ret]
  by_cases cx : 0 ≤ x.toInt ∧ x.toInt < n
  · rw [decide_eq_true cx]
    obtain ⟨m, hm, hmn⟩ := o_in cx (by omega)
    have kk := k m hm hmn
    have kb := k2 m hm hmn
    subst hm
    obtain ⟨l, ci, hl1, hl2, hc1, hc2⟩ := hl m hmn
    have hm5 : m < 5 := by omega
    have bad : ¬ readR M G m na → ∀ y3 : Int32, WP (d + 1) mX12_goes 0 [some (.ref 210), some (.int 1), some (.int 0), some (.int 1)] [] h (KK (d + 1) mX12_read mX12_goes 66 [some (.ref 210), some (.int (Int32.ofNat m)), some (.int 1), some (.int y3), u4] [] Q) := by
      intro nc y3
      refine x_goes (a := true) (b := false) (g := true) hr hM ?_
      intro h1 hr1
      rw [KK_ret]
      exact bX12_read_69 ⟨fun w => absurd rfl w, fun _ => kb nc h1 hr1⟩
    refine bX12_read_5 ⟨fun w => absurd w (by decide), fun _ => ⟨by decide, q0 hr hM, x_holdsLease hr hM hm5 ?_⟩⟩
    rw [KK_ret]
    refine bX12_read_15 ⟨fun w => ⟨by decide, q0 hr hM, bad ?_ 0⟩, fun w => ?_⟩
    · rw [b2i_z] at w
      exact fun z => absurd (w.symm.trans z.1) (by decide)
    · have hh : holB M G m = true := by simpa [b2i_z] using w
      simp (disch := omega) only [q0 hr hM, qR_13 hr hM, qK_13 hr hM, qi_13 hr hM, qA_13 hr hM, o_c, o_add, o_addn, o_nadd, o_muln, o_le, o_lt, o_nle, o_len, o_nlt, o_ltn, o_eq, o_eqn, o_neq, o_sub1, true_and]
      refine ⟨fun c0 => ⟨by decide, bad (fun z => ?_) 0⟩, fun c0 => ⟨by decide, ?_⟩⟩
      · rw [Int32.le_iff_toInt_le, i_zero] at c0
        have := z.2.1
        omega
      · have c0' : 0 < (M 13 m).toInt := by
          rw [Int32.le_iff_toInt_le, i_zero] at c0
          omega
        rw [hc1]
        refine x_termAt hr hM hm5 hl1 hl2 hc2 ?_
        rw [KK_ret]
        have et : tmAt M m (Int32.ofNat ci) = tmAt M m (M 13 m) := by rw [hc1]
        rw [et]
        refine bX12_read_38 ?_
        simp (disch := omega) only [q0 hr hM, qR_9 hr hM, qK_9 hr hM, qi_9 hr hM, qA_9 hr hM, qI_47 hr hM, ha, o_c, o_add, o_addn, o_nadd, o_muln, o_le, o_lt, o_nle, o_len, o_nlt, o_ltn, o_eq, o_eqn, o_neq, o_sub1, true_and]
        refine ⟨fun t => ⟨by decide, bad (fun z => t z.2.2.1) 0⟩, fun t => ⟨fun c14 => ⟨by decide, bad (fun z => ?_) 0⟩, fun c14 => ⟨by decide, x_goes (a := true) (b := true) (g := true) hr hM ?_⟩⟩⟩
        · have c14' : 14 ≤ na := c14
          have := z.2.2.2
          omega
        · have c14' : ¬ 14 ≤ na := c14
          have kc := kk ⟨hh, c0', Classical.not_not.mp t, by omega⟩
          intro h1 hr1
          rw [KK_ret]
          have hM1 : u2 M 50 0 0 1000 0 = 0 := hM
          have e4 : hI h1 1204 210 = M 4 0 := qI_4 (M := u2 M 50 0 0) hr1 hM1
          have r1 : RC S F e (stepS (u2 M 50 0 0), G, c) (sI h1 1204 210 (M 4 0 + 1)) := rm_4 (M 4 0 + 1) hr1
          have hMT : stepS (u2 M 50 0 0) 1000 0 = 0 := hM
          have haT : stepS (u2 M 50 0 0) 47 0 = Int32.ofNat na := ha
          have HT : ENDH (stepS (u2 M 50 0 0)) n na := H
          have hcT : stepS (u2 M 50 0 0) 13 m = Int32.ofNat ci := hc1
          have eci : nt (M 13 m) = ci := nt_of hc1 (by omega)
          have eciT : nt (stepS (u2 M 50 0 0) 13 m) = ci := nt_of hc1 (by omega)
          refine bX12_read_69 ⟨fun _ => ⟨q0 (M := u2 M 50 0 0) hr1 hM1, by decide, ?_⟩, fun w => absurd (by decide) w⟩
          rw [e4]
          refine x_valueOf r1 hMT hm5 hcT (by omega) ?_
          rw [KK_ret]
          have e4T := qI_4 r1 hMT
          refine bX12_read_89 ⟨q0 r1 hMT, by decide, ?_⟩
          rw [e4T]
          refine x_acts r1 hMT haT (by omega) rfl ?_
          intro h2 hr2
          rw [KK_ret]
          have eR : readS (stepS (u2 M 50 0 0)) m = actS (stepS (u2 M 50 0 0)) 0 0 0 (valU (stepS (u2 M 50 0 0)) m ci) (stepS (u2 M 50 0 0) 4 0) := by
            unfold readS
            rw [eciT]
          rw [eR, eci] at kc
          have ev : valU (stepS (u2 M 50 0 0)) m ci = valU M m ci := valU_cg (S1 := stepS (u2 M 50 0 0)) (S2 := M) rfl rfl rfl ci
          have hM2 : actS (stepS (u2 M 50 0 0)) 0 0 0 (valU (stepS (u2 M 50 0 0)) m ci) (stepS (u2 M 50 0 0) 4 0) 1000 0 = 0 := hM
          refine bX12_read_104 ⟨by decide, q0 hr2 hM2, x_endsH hr2 hM2 (ENDH_act HT (by omega) (Or.inl rfl)) ?_⟩
          intro h3 hr3
          rw [KK_ret]
          refine bX12_read_108 ?_
          rw [ev]
          exact kc h3 hr3
  · rw [decide_eq_false cx]
    refine bX12_read_5 ⟨fun _ => ⟨by decide, q0 hr hM, x_goes (a := false) (b := false) (g := true) hr hM ?_⟩, fun w => absurd rfl w⟩
    intro h1 hr1
    rw [KK_ret]
    exact bX12_read_69 ⟨fun w => absurd rfl w, fun _ => k3 cx h1 hr1⟩
end REFS
