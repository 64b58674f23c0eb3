/-! ===== the reference: acknowledged ===== -/
section REFM
variable {S : SI} {F : SF} {e : EX} {M : SI} {G : SF} {c : Nat × Nat × Nat × (Nat → Int32)} {h : HP} {d : Nat} {Q : Out → HP → Prop} {n q l : Nat}
/-- what the lease asks of the numbers -/
def LEAH (P : PT) (m n : Nat) : Prop := (bestF P.1 P.2 m n n).1 = true → nn32 (FP.fsub FP.fconst1 (P.2 3 0)) = true ∧ nn32 (FP.fmul (P.2 2 0) (FP.fsub FP.fconst1 (P.2 3 0))) = true ∧ nn32 (FP.fadd (bestF P.1 P.2 m n n).2 (FP.fmul (P.2 2 0) (FP.fsub FP.fconst1 (P.2 3 0)))) = true
theorem x_ack_fin {B : SI} {m f : Nat} {w : RW} {x : UInt32} (hr : RC S F e (B, G, c) h) (hM : B 1000 0 = 0) (hm : m < 5) (hf : f < 5) (hw1 : w 1 = Int32.ofNat f) (hn : B 0 0 = Int32.ofNat n) (hn5 : n = 3 ∨ n = 5) (hz : ∀ j, j < n → B 21 (5 * m + j) = 0 ∨ B 21 (5 * m + j) = 1) (hL : LEAH (clockP (B, G) m w x) m n) (k : ∀ h', RC S F e ((leaseP (clockP (B, G) m w x) m).1, (leaseP (clockP (B, G) m w x) m).2, c) h' → Q (.inl none) h') {v3 : UInt32} {v4 v5 : Int32} (val : UInt32) (hv : val = if B 21 (5 * m + f) = 1 ∧ 0 < Op.cmpValue (FP.fcmp (G 22 (5 * m + f)) x) .l then G 22 (5 * m + f) else x) : WP (d + 1) mX12_leases 0 [some (.ref 210), some (.int (Int32.ofNat m)), none, none, none, none, none] [] (sAI (sAF h 228 (5 * m + f) val) 227 (5 * m + f) 1) (KK (d + 1) mX12_acknowledged mX12_leases 192 [some (.ref 210), some (.int (Int32.ofNat m)), some (.float v3), some (.int v4), some (.int v5)] [] Q) := by
  have en : nt (w 1) = f := nt_of hw1 (by omega)
  have ec : clockP (B, G) m w x = (u2 B 21 (5 * m + f) 1, u2 G 22 (5 * m + f) val) := by
    unfold clockP
    rw [en, hv]
  rw [ec] at hL k
  have r1 : RC S F e (u2 B 21 (5 * m + f) 1, u2 G 22 (5 * m + f) val, c) (sAI (sAF h 228 (5 * m + f) val) 227 (5 * m + f) 1) := rm_21 (5 * m + f) 1 (rm_22 (5 * m + f) val hr)
  refine x_leases r1 hM hm hn hn5 ?_ hL ?_
  · intro j hj
    unfold u2
    by_cases z : 21 = 21 ∧ 5 * m + j = 5 * m + f
    · rw [if_pos z]; exact Or.inr rfl
    · rw [if_neg z]; exact hz j hj
  · intro h' hr'
    rw [KK_ret]
    exact bX12_acknowledged_195 (k h' hr')
theorem x_ack_105 {A : SI} {m f : Nat} {w : RW} {x : UInt32} (hr : RC S F e (A, G, c) h) (hM : A 1000 0 = 0) (hm : m < 5) (hf : f < 5) (hw1 : w 1 = Int32.ofNat f) (hn : A 0 0 = Int32.ofNat n) (hn5 : n = 3 ∨ n = 5) (hl : A 12 m = Int32.ofNat l) (h30 : l ≤ 30) (hz : ∀ j, j < 5 → A 21 (5 * m + j) = 0 ∨ A 21 (5 * m + j) = 1) (hL : LEAH (clockP (commitS A m, G) m w x) m n) (k : ∀ h', RC S F e ((leaseP (clockP (commitS A m, G) m w x) m).1, (leaseP (clockP (commitS A m, G) m w x) m).2, c) h' → Q (.inl none) h') {u4 : Option Value} : WP (d + 2) mX12_acknowledged 105 [some (.ref 210), some (.int (Int32.ofNat m)), some (.float x), some (.int (Int32.ofNat (5 * m + f))), u4] [.int (mostI A), .int (Int32.ofNat m), .ref 210] h Q := by
  have en : nt (A 0 0) = n := nt_of hn (by omega)
  have el : nt (A 12 m) = l := nt_of hl (by omega)
  refine bX12_acknowledged_105 ⟨by decide, q0 hr hM, ?_⟩
  rw [most_1 hn hn5]
  refine x_rankedSame hr hM hm hn (by omega) (by omega) hl h30 ?_
  intro r hrl hrk
  rw [KK_ret]
  unfold commitS at hL k
  rw [en, el, hrk] at hL k
  have ha : ∀ y : Int32, A 21 (5 * m + f) = 0 → ¬ (A 21 (5 * m + f) = 1 ∧ 0 < y) := fun y a z => by rw [a] at z; exact absurd z.1 (by decide)
  have hb : ¬ A 21 (5 * m + f) = 0 → A 21 (5 * m + f) = 1 := fun a => (hz f hf).resolve_left a
  refine bX12_acknowledged_110 ?_
  simp (disch := omega) only [q0 hr hM, qR_13 hr hM, qK_13 hr hM, qi_13 hr hM, qA_13 hr hM, qR_21 hr hM, qK_21 hr hM, qi_21 hr hM, qA_21 hr hM, qR_22 hr hM, qK_22 hr hM, qi_22 hr hM, qA_22 hr hM, o_c, o_add, o_addn, o_nadd, o_muln, o_le, o_lt, o_nle, o_len, o_nlt, o_ltn, o_eq, o_eqn, o_neq, o_sub1, true_and]
  refine ⟨fun a => ?_, fun a => ⟨by decide, x_termAt hr hM hm hl h30 hrl ?_⟩⟩
  · simp only [if_neg (fun z : A 13 m < Int32.ofNat r ∧ tmAt A m (Int32.ofNat r) = A 9 m => Int32.not_lt.mpr a z.1)] at hL k
    have fin := fun val hv v5 => x_ack_fin (d := d) (v3 := x) (v4 := Int32.ofNat (5 * m + f)) (v5 := v5) hr hM hm hf hw1 hn hn5 (fun j hj => hz j (by omega)) hL k val hv
    refine ⟨fun b => ⟨by decide, fin _ ?_ _⟩, fun b => ⟨fun g => ⟨by decide, fin _ ?_ _⟩, fun g => ⟨by decide, fin _ ?_ _⟩⟩⟩
    · rw [if_neg (ha _ b)]
    · rw [if_neg (fun z => Int32.not_lt.mpr g z.2)]
    · rw [if_pos ⟨hb b, Int32.not_le.mp g⟩]
  · rw [KK_ret]
    refine bX12_acknowledged_130 ?_
    have r1 := rm_13 m (Int32.ofNat r) hr
    have a21 := qA_21 r1 hM
    have e21 : u2 A 13 m (Int32.ofNat r) 21 (5 * m + f) = A 21 (5 * m + f) := rfl
    simp (disch := omega) only [q0 hr hM, qR_9 hr hM, qK_9 hr hM, qi_9 hr hM, qA_9 hr hM, qR_13 hr hM, qK_13 hr hM, qi_13 hr hM, qA_13 hr hM, qR_21 hr hM, qK_21 hr hM, qi_21 hr hM, qA_21 hr hM, qR_22 hr hM, qK_22 hr hM, qi_22 hr hM, qA_22 hr hM, a21, e21, o_c, o_add, o_addn, o_nadd, o_muln, o_le, o_lt, o_nle, o_len, o_nlt, o_ltn, o_eq, o_eqn, o_neq, o_sub1, true_and]
    refine ⟨fun t => ?_, fun t => ?_⟩
    · simp only [if_neg (fun z : A 13 m < Int32.ofNat r ∧ tmAt A m (Int32.ofNat r) = A 9 m => t z.2)] at hL k
      have fin := fun val hv v5 => x_ack_fin (d := d) (v3 := x) (v4 := Int32.ofNat (5 * m + f)) (v5 := v5) hr hM hm hf hw1 hn hn5 (fun j hj => hz j (by omega)) hL k val hv
      refine ⟨fun b => ⟨by decide, fin _ ?_ _⟩, fun b => ⟨fun g => ⟨by decide, fin _ ?_ _⟩, fun g => ⟨by decide, fin _ ?_ _⟩⟩⟩
      · rw [if_neg (ha _ b)]
      · rw [if_neg (fun z => Int32.not_lt.mpr g z.2)]
      · rw [if_pos ⟨hb b, Int32.not_le.mp g⟩]
    · simp only [if_pos (And.intro (Int32.not_le.mp a) (Classical.not_not.mp t))] at hL k
      have fin := fun val hv v5 => x_ack_fin (d := d) (v3 := x) (v4 := Int32.ofNat (5 * m + f)) (v5 := v5) r1 hM hm hf hw1 hn hn5 (fun j hj => hz j (by omega)) hL k val hv
      refine ⟨fun b => ⟨by decide, fin _ ?_ _⟩, fun b => ⟨fun g => ⟨by decide, fin _ ?_ _⟩, fun g => ⟨by decide, fin _ ?_ _⟩⟩⟩
      · rw [e21, if_neg (ha _ b)]
      · rw [e21, if_neg (fun z => Int32.not_lt.mpr g z.2)]
      · rw [e21, if_pos ⟨hb b, Int32.not_le.mp g⟩]
theorem x_acknowledged {m f : Nat} {w : RW} {x : UInt32} (hr : RC S F e (M, G, c) h) (hM : M 1000 0 = 0) (hm : m < 5) (hf : f < 5) (hw : ∀ i, i < 24 → M 49 i = w i) (hw1 : w 1 = Int32.ofNat f) (hn : M 0 0 = Int32.ofNat n) (hn5 : n = 3 ∨ n = 5) (hl : M 12 m = Int32.ofNat l) (h30 : l ≤ 30) (hz : ∀ j, j < 5 → M 21 (5 * m + j) = 0 ∨ M 21 (5 * m + j) = 1) (hL : LEAH (clockP (commitS (sameS M m w) m, G) m w x) m n) {u3 u4 : Option Value} (k : ∀ h', RC S F e ((ackedP (M, G) m w x).1, (ackedP (M, G) m w x).2, c) h' → Q (.inl none) h') : WP (d + 2) mX12_acknowledged 0 [some (.ref 210), some (.int (Int32.ofNat m)), some (.float x), u3, u4] [] h Q := by
  have w1 := (hw 1 (by decide)).trans hw1
  have w3 := hw 3 (by decide)
  have w4 := hw 4 (by decide)
  have w7 := hw 7 (by decide)
  have en : nt (w 1) = f := nt_of hw1 (by omega)
  unfold ackedP at k
  unfold sameS at hL k
  rw [en] at hL
  simp only [en] at k
  have r1 := rm_20 (5 * m + f) (w 4) hr
  have a49 := qA_49 r1 hM
  have e4 : u2 M 20 (5 * m + f) (w 4) 49 4 = w 4 := w4
  refine bX12_acknowledged_0 ?_
  simp (disch := omega) only [q0 hr hM, qR_49 hr hM, qK_49 hr hM, qi_49 hr hM, qA_49 hr hM, qR_9 hr hM, qK_9 hr hM, qi_9 hr hM, qA_9 hr hM, qR_11 hr hM, qK_11 hr hM, qi_11 hr hM, qA_11 hr hM, qR_19 hr hM, qK_19 hr hM, qi_19 hr hM, qA_19 hr hM, qR_20 hr hM, qK_20 hr hM, qi_20 hr hM, qA_20 hr hM, ti_1 hr hM, tc_1, ti_3 hr hM, tc_3, ti_4 hr hM, tc_4, ti_7 hr hM, tc_7, w1, w3, w4, w7, a49, e4, o_c, o_add, o_addn, o_nadd, o_muln, o_le, o_lt, o_nle, o_len, o_nlt, o_ltn, o_eq, o_eqn, o_neq, o_sub1, true_and]
  refine ⟨fun a => ?_, fun a => ⟨fun b => ⟨fun z => ⟨fun y => ?_, fun y => ?_⟩, fun z => ?_⟩, fun b => ?_⟩⟩
  · rw [if_pos (Or.inl a)] at k
    exact k h hr
  · rw [if_neg (fun o => o.elim a (fun o => o b)), if_neg (show ¬ w 7 = 0 from z)] at k
    rw [if_neg (Int32.not_lt.mpr y)] at hL k
    refine ⟨by decide, x_most hr hM ?_⟩
    rw [KK_ret]
    exact x_ack_105 hr hM hm hf hw1 hn hn5 hl h30 hz hL k
  · rw [if_neg (fun o => o.elim a (fun o => o b)), if_neg (show ¬ w 7 = 0 from z)] at k
    rw [if_pos (Int32.not_le.mp y)] at hL k
    have hM1 : u2 M 20 (5 * m + f) (w 4) 1000 0 = 0 := hM
    have r2 := rm_19 (5 * m + f) (w 4) r1
    refine bX12_acknowledged_98 ?_
    simp (disch := omega) only [q0 r1 hM1, qR_19 r1 hM1, qK_19 r1 hM1, qi_19 r1 hM1, qA_19 r1 hM1, q0 r1 hM1, o_c, o_add, o_addn, o_nadd, o_muln, o_le, o_lt, o_nle, o_len, o_nlt, o_ltn, o_eq, o_eqn, o_neq, o_sub1, true_and]
    refine ⟨by decide, x_most r2 hM ?_⟩
    rw [KK_ret]
    exact x_ack_105 r2 hM hm hf hw1 hn hn5 hl h30 hz hL k
  · rw [if_neg (fun o => o.elim a (fun o => o b)), if_pos (Classical.not_not.mp z)] at k
    exact k _ (rm_19 (5 * m + f) (w 4) hr)
  · rw [if_pos (Or.inr b)] at k
    exact k h hr
end REFM
