section INI4
variable {h h' h0 : HP} {x : Nat → Prop} {d : Nat} {Q : Out → HP → Prop}
def eFst : RW × UInt32 := ((fun _ => 0), 0)
theorem w_X11_74 (h2 : hN h0 = 2) (hC0 : hC h0 = 0) (hk1 : hK h0 1 = 19) (k : ∀ h' e1', RC (beginS zS 3) (beginF zF) (e1', 0, eFst) (mFst, zF, 208, hZ h', hL h0 1, hAI h0 1) h' → hZ h' ≤ hZ h0 + 3536000 → hN h' = 210 → Q (.inl none) h') : ∀ (m i : Nat) (h : HP), i + m = 5 → FRX h0 h (fun _ => False) → LPM h i → WP (d + 5) mX11_init 74 [some (.ref 2), some (.int (Int32.ofNat i))] [] h Q := by
  intro m
  induction m with
  | zero =>
    intro i h hi fr w
    obtain rfl : i = 5 := by omega
    refine bX11_init_74 ⟨fun _ => ⟨by decide, w.2.1.1.1, ?_⟩, fun c => absurd (by decide) c⟩
    have r := rc_first fr h2 hC0 hk1 w
    have hc := fr.C
    have hz := fr.Z
    have hn := w.1
    have e208 : hC h = 208 := by omega
    have eL1 : hL h 1 = hL h0 1 := fr.L 1 (by omega)
    have eA1 : hAI h 1 = hAI h0 1 := funext fun j => fr.AI 1 j (by omega)
    rw [e208, eL1, eA1] at r
    refine w_renew (S := zS) (F := zF) (e1 := 0) (e3 := eFst) r (fun m hm => ⟨0, rfl, by decide⟩) ?_
    intro h' e1' r'
    have t := r'.2.2.2.2.2.2.2.2.2.2.2
    have hz' : hZ h' = hZ h := t.2.1
    have hc' : hC h' = 208 := t.1
    have hn' := t.2.2.2.2.1
    rw [KK_ret]
    refine bX11_init_104 (k h' e1' ?_ (by omega) (by omega))
    rw [hz']
    exact r'
  | succ m ih =>
    intro i h hi fr w
    obtain ⟨hN0, bf, hm⟩ := w
    have hK2 := bf.1.1
    have hK3 := bf.1.2.1
    have hL3 := bf.1.2.2.1
    have hR0 := bf.2.1.1
    have hz0 := fr.Z
    refine bX11_init_74 ⟨fun c => absurd c (fun w => ?_), fun _ => ⟨hK2, by omega, ?_⟩⟩
    · have := Int32.le_iff_toInt_le.mp w
      rw [o_i _ (by omega)] at this
      have e : (5 : Int32).toInt = 5 := by decide
      omega
    · rw [hR0, hN0]
      refine w_X8init (by omega) (by rw [hN_nw]; omega) (by rw [hK_nw, if_pos hN0.symm]) ?_
      intro h1 q n1 sm ch
      rw [KK_ret]
      have q0 : FRX h h1 (fun _ => False) := (FRX.n FRX.refl (by decide)).trans q (fun b hb w => by omega)
      have k3 : hK h1 3 = 25 := (q0.K 3 (by omega)).trans hK3
      have l3 : hL h1 3 = 5 := (q0.L 3 (by omega)).trans hL3
      have kA : hK h1 (150 + 12 * i) = 8 := by rw [q.K _ (by rw [hN_nw]; omega), hK_nw, if_pos hN0.symm]
      refine bX11_init_92 ⟨by rw [k3]; decide, inA_o l3 (by omega) (by decide), ⟨by omega, by rw [k3, kA]; rfl⟩, ?_⟩
      rw [o_c _ (by omega), show Int32.ofNat i + (1 : Int32) = Int32.ofNat (i + 1) from o_addn _ _]
      have f3 : FRX h1 (sAR h1 3 i (150 + 12 * i)) (fun b => b = 3) := FRX.sAR FRX.refl (Or.inl rfl)
      have f1 : FRX h (sAR h1 3 i (150 + 12 * i)) (fun b => b = 3) := q0.mono (x := fun b => b = 3) (fun b hb w => w.elim) |>.trans f3 (fun b hb w => w)
      have f0 : FRX h0 (sAR h1 3 i (150 + 12 * i)) (fun _ => False) := fr.trans f1 (fun b hb w => by omega)
      refine ih (i + 1) _ (by omega) f0 ⟨by rw [hN_sAR]; omega, bf.frx f1 (by omega) (fun b g1 g2 g3 => g1 g3), fun p hp => ?_⟩
      by_cases c : p = i
      · subst c
        refine ⟨by rw [hAR_sAR, if_pos ⟨rfl, rfl⟩], kA, sm.frx f3 (by omega) (fun b g1 g2 g3 => by omega), fun c hc => ⟨(f3.AR _ _ (by omega) (by omega)).trans (ch c hc).1, (ch c hc).2⟩⟩
      · obtain ⟨g1, g2, g3, g4⟩ := hm p (by omega)
        refine ⟨?_, (f1.K _ (by omega)).trans g2, g3.frx f1 (by omega) (fun b u1 u2 u3 => by omega), fun c hc => ⟨(f1.AR _ _ (by omega) (by omega)).trans (g4 c hc).1, (f1.K _ (by omega)).trans (g4 c hc).2⟩⟩
        rw [hAR_sAR, if_neg (fun w => c w.2), q0.AR 3 p (by omega) (fun w => w)]
        exact g1
theorem w_X11init (h2 : hN h0 = 2) (hC0 : hC h0 = 0) (hk1 : hK h0 1 = 19) {u : Option Value} (k : ∀ h' e1', RC (beginS zS 3) (beginF zF) (e1', 0, eFst) (mFst, zF, 208, hZ h', hL h0 1, hAI h0 1) h' → hZ h' ≤ hZ h0 + 3536000 → hN h' = 210 → Q (.inl none) h') : WP (d + 5) mX11_init 0 [some (.ref 2), u] [] (nw h0 11 0 6) Q := by
  have N1 : hN (nw h0 11 0 6) = 3 := by rw [hN_nw, h2]
  have K1 : hK (nw h0 11 0 6) 2 = 11 := by rw [hK_nw, if_pos h2.symm]
  have f1 : FRX h0 (nw h0 11 0 6) (fun _ => False) := FRX.n FRX.refl (by decide)
  generalize nw h0 11 0 6 = h1 at N1 K1 f1 ⊢
  have fA : FRX h1 (sR (nw h1 25 5 5) 1100 2 (hN h1)) (fun b => b = 2) := FRX.sR (FRX.n FRX.refl (by decide)) (Or.inl rfl)
  have NA : hN (sR (nw h1 25 5 5) 1100 2 (hN h1)) = 4 := by rw [hN_sR, hN_nw]; omega
  have rA : hR (sR (nw h1 25 5 5) 1100 2 (hN h1)) 1100 2 = 3 := by rw [hR_sR, if_pos ⟨rfl, rfl⟩]; exact N1
  have kA : hK (sR (nw h1 25 5 5) 1100 2 (hN h1)) 3 = 25 := by rw [hK_sR, hK_nw, if_pos N1.symm]
  have lA : hL (sR (nw h1 25 5 5) 1100 2 (hN h1)) 3 = 5 := by rw [hL_sR, hL_nw, if_pos N1.symm]
  have kA2 : hK (sR (nw h1 25 5 5) 1100 2 (hN h1)) 2 = 11 := (fA.K 2 (by omega)).trans K1
  refine bX11_init_0 ⟨by decide, (nw_K (by omega)).trans K1, by omega, ?_⟩
  generalize sR (nw h1 25 5 5) 1100 2 (hN h1) = hA at fA NA rA kA lA kA2 ⊢
  have f0A : FRX h0 hA (fun _ => False) := f1.trans fA (fun b hb w => by omega)
  rw [NA]
  refine w_X10init (by rw [hN_nw]; omega) (by rw [hK_nw, if_pos NA.symm]) ?_
  intro hB qB nB netB'
  have q1 : FRX hA hB (fun _ => False) := (FRX.n FRX.refl (by decide)).trans qB (fun b hb w => by omega)
  have k4 : hK hB 4 = 10 := by rw [qB.K 4 (by rw [hN_nw]; omega), hK_nw, if_pos NA.symm]
  have k2 : hK hB 2 = 11 := (q1.K 2 (by omega)).trans kA2
  have r0 : hR hB 1100 2 = 3 := (q1.R _ 2 (by omega) (fun w => w)).trans rA
  have k3 : hK hB 3 = 25 := (q1.K 3 (by omega)).trans kA
  have l3 : hL hB 3 = 5 := (q1.L 3 (by omega)).trans lA
  have f0B : FRX h0 hB (fun _ => False) := f0A.trans q1 (fun b hb w => w)
  rw [KK_ret]
  have nC : hN (nw (sR hB 1101 2 4) 6 0 4) = 132 := by rw [hN_nw, hN_sR]; omega
  have kC : hK (nw (sR hB 1101 2 4) 6 0 4) 131 = 6 := by rw [hK_nw, if_pos (by rw [hN_sR]; omega)]
  have fC : FRX hB (nw (sR hB 1101 2 4) 6 0 4) (fun b => b = 2) := FRX.n (FRX.sR FRX.refl (Or.inl rfl)) (by decide)
  have rC0 : hR (nw (sR hB 1101 2 4) 6 0 4) 1100 2 = 3 := by rw [nw_R (by rw [hN_sR]; omega), hR_sR, if_neg (by omega)]; exact r0
  have rC1 : hR (nw (sR hB 1101 2 4) 6 0 4) 1101 2 = 4 := by rw [nw_R (by rw [hN_sR]; omega), hR_sR, if_pos ⟨rfl, rfl⟩]
  refine bX11_init_20 ⟨k2, (fC.K 2 (by omega)).trans k2, by omega, ?_⟩
  rw [rC0, rC1, nB]
  generalize nw (sR hB 1101 2 4) 6 0 4 = hC1 at nC kC fC rC0 rC1 ⊢
  refine bX6_init_0 ⟨by decide, kC, ?_⟩
  rw [KK_ret]
  have fD : FRX hC1 (sR (sR hC1 600 131 3) 601 131 4) (fun b => b = 131) := FRX.sR (FRX.sR FRX.refl (Or.inl rfl)) (Or.inl rfl)
  have rD0 : hR (sR (sR hC1 600 131 3) 601 131 4) 600 131 = 3 := by rw [hR_sR, if_neg (by omega), hR_sR, if_pos ⟨rfl, rfl⟩]
  have rD1 : hR (sR (sR hC1 600 131 3) 601 131 4) 601 131 = 4 := by rw [hR_sR, if_pos ⟨rfl, rfl⟩]
  have nD : hN (sR (sR hC1 600 131 3) 601 131 4) = 132 := nC
  generalize sR (sR hC1 600 131 3) 601 131 4 = hD at fD rD0 rD1 nD ⊢
  have fE : FRX hD (nw (sR hD 1102 2 131) 1 0 2) (fun b => b = 2) := FRX.n (FRX.sR FRX.refl (Or.inl rfl)) (by decide)
  have nE : hN (nw (sR hD 1102 2 131) 1 0 2) = 133 := by rw [hN_nw, hN_sR]; omega
  have kE : hK (nw (sR hD 1102 2 131) 1 0 2) 132 = 1 := by rw [hK_nw, if_pos (by rw [hN_sR]; omega)]
  have rE0 : hR (nw (sR hD 1102 2 131) 1 0 2) 1100 2 = 3 := by rw [nw_R (by rw [hN_sR]; omega), hR_sR, if_neg (by omega), fD.R _ 2 (by omega) (by decide)]; exact rC0
  have rE1 : hR (nw (sR hD 1102 2 131) 1 0 2) 1101 2 = 4 := by rw [nw_R (by rw [hN_sR]; omega), hR_sR, if_neg (by omega), fD.R _ 2 (by omega) (by decide)]; exact rC1
  have rE2 : hR (nw (sR hD 1102 2 131) 1 0 2) 1102 2 = 131 := by rw [nw_R (by rw [hN_sR]; omega), hR_sR, if_pos ⟨rfl, rfl⟩]
  have kD2 : hK hD 2 = 11 := (fD.K 2 (by omega)).trans ((fC.K 2 (by omega)).trans k2)
  refine bX11_init_39 ⟨kD2, (fE.K 2 (by omega)).trans kD2, by omega, ?_⟩
  rw [rE0, rE1, nD]
  generalize nw (sR hD 1102 2 131) 1 0 2 = hE at fE nE kE rE0 rE1 rE2 ⊢
  refine bX1_init_0 ⟨by decide, kE, ?_⟩
  rw [KK_ret]
  have fG : FRX hE (sR (sR hE 100 132 3) 101 132 4) (fun b => b = 132) := FRX.sR (FRX.sR FRX.refl (Or.inl rfl)) (Or.inl rfl)
  have rG0 : hR (sR (sR hE 100 132 3) 101 132 4) 100 132 = 3 := by rw [hR_sR, if_neg (by omega), hR_sR, if_pos ⟨rfl, rfl⟩]
  have rG1 : hR (sR (sR hE 100 132 3) 101 132 4) 101 132 = 4 := by rw [hR_sR, if_pos ⟨rfl, rfl⟩]
  have nG : hN (sR (sR hE 100 132 3) 101 132 4) = 133 := nE
  generalize sR (sR hE 100 132 3) 101 132 4 = hG at fG rG0 rG1 nG ⊢
  have fH : FRX hG (nw (sR hG 1103 2 132) 4 0 5) (fun b => b = 2) := FRX.n (FRX.sR FRX.refl (Or.inl rfl)) (by decide)
  have nH : hN (nw (sR hG 1103 2 132) 4 0 5) = 134 := by rw [hN_nw, hN_sR]; omega
  have kH : hK (nw (sR hG 1103 2 132) 4 0 5) 133 = 4 := by rw [hK_nw, if_pos (by rw [hN_sR]; omega)]
  have rH0 : hR (nw (sR hG 1103 2 132) 4 0 5) 1100 2 = 3 := by rw [nw_R (by rw [hN_sR]; omega), hR_sR, if_neg (by omega), fG.R _ 2 (by omega) (by decide)]; exact rE0
  have rH1 : hR (nw (sR hG 1103 2 132) 4 0 5) 1101 2 = 4 := by rw [nw_R (by rw [hN_sR]; omega), hR_sR, if_neg (by omega), fG.R _ 2 (by omega) (by decide)]; exact rE1
  have rH2 : hR (nw (sR hG 1103 2 132) 4 0 5) 1102 2 = 131 := by rw [nw_R (by rw [hN_sR]; omega), hR_sR, if_neg (by omega), fG.R _ 2 (by omega) (by decide)]; exact rE2
  have rH3 : hR (nw (sR hG 1103 2 132) 4 0 5) 1103 2 = 132 := by rw [nw_R (by rw [hN_sR]; omega), hR_sR, if_pos ⟨rfl, rfl⟩]
  have fBG : FRX hB hG (fun b => b = 2) := ((fC.trans fD (fun b hb w => by omega)).trans fE (fun b hb w => w)).trans fG (fun b hb w => by omega)
  have kG2 : hK hG 2 = 11 := (fBG.K 2 (by omega)).trans k2
  refine bX11_init_58 ⟨kG2, by omega, ?_⟩
  rw [nG]
  generalize nw (sR hG 1103 2 132) 4 0 5 = hH at fH nH kH rH0 rH1 rH2 rH3 ⊢
  refine w_X4init nH kH ?_
  intro hJ qJ nJ hs1 acts
  rw [KK_ret]
  refine bX11_init_69 ⟨(qJ.K 2 (by omega)).trans ((fH.K 2 (by omega)).trans kG2), ?_⟩
  have fJ : FRX hH (sR hJ 1104 2 133) (fun b => b = 2 ∨ b = 133) := FRX.sR (qJ.mono (fun b hb w => Or.inr w)) (Or.inl (Or.inl rfl))
  have f2 : FRX hJ (sR hJ 1104 2 133) (fun b => b = 2) := FRX.sR FRX.refl (Or.inl rfl)
  have r4 : hR (sR hJ 1104 2 133) 1104 2 = 133 := by rw [hR_sR, if_pos ⟨rfl, rfl⟩]
  have rr : ∀ f, f ≠ 1104 → hR (sR hJ 1104 2 133) f 2 = hR hH f 2 := fun f hf => by rw [hR_sR, if_neg (fun w => hf w.1), qJ.R _ 2 (by omega) (by decide)]
  have e0 := rr 1100 (by decide)
  have e1 := rr 1101 (by decide)
  have e2 := rr 1102 (by decide)
  have e3 := rr 1103 (by decide)
  have nK : hN (sR hJ 1104 2 133) = 150 := nJ
  generalize sR hJ 1104 2 133 = hK1 at fJ f2 r4 e0 e1 e2 e3 nK ⊢
  have fGK : FRX hG hK1 (fun b => b = 2) := fH.trans fJ (fun b hb w => by omega)
  have fBK : FRX hB hK1 (fun b => b = 2) := fBG.trans fGK (fun b hb w => w)
  have fDK : FRX hD hK1 (fun b => b = 2) := ((fE.trans fG (fun b hb w => by omega)).trans fGK (fun b hb w => w))
  have z0 : (0 : Int32) = Int32.ofNat 0 := rfl
  rw [z0]
  refine w_X11_74 h2 hC0 hk1 k 5 0 hK1 rfl (f0B.trans fBK (fun b hb w => by omega)) ⟨nK, ⟨⟨(fBK.K 2 (by omega)).trans k2, (fBK.K 3 (by omega)).trans k3, (fBK.L 3 (by omega)).trans l3, (fBK.K 4 (by omega)).trans k4, ?_, ?_, ?_⟩, ⟨e0.trans rH0, e1.trans rH1, e2.trans rH2, e3.trans rH3, r4, (fDK.R _ 131 (by omega) (by decide)).trans rD0, (fDK.R _ 131 (by omega) (by decide)).trans rD1, (fGK.R _ 132 (by omega) (by decide)).trans rG0, (fGK.R _ 132 (by omega) (by decide)).trans rG1⟩, netB'.frx fBK (by omega) (by decide) (by decide) (fun b g1 g2 => by omega), hs1.frx f2 (by omega) (by decide), fun c hc => ⟨(f2.AR _ _ (by omega) (by decide)).trans (acts c hc).1, (f2.K _ (by omega)).trans (acts c hc).2⟩⟩, fun p hp => absurd hp (by omega)⟩
  · exact (fDK.K 131 (by omega)).trans ((fD.K 131 (by omega)).trans kC)
  · exact (fGK.K 132 (by omega)).trans ((fG.K 132 (by omega)).trans kE)
  · exact (fJ.K 133 (by omega)).trans kH
end INI4
