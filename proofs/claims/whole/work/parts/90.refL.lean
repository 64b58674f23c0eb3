/-! ===== the reference: deliver, the whole ===== -/
section REFU
variable {S : SI} {F : SF} {e : EX} {M : SI} {G : SF} {c : Nat × Nat × Nat × (Nat → Int32)} {h : HP} {d : Nat} {Q : Out → HP → Prop} {n q l : Nat}
/-- the first j numbers of message p taken -/
def tkJ (M : SI) (p j : Nat) : SI := fun s k => if s = 49 ∧ k < j then M 37 (24 * p + k) else M s k
theorem tkJ_succ {p j : Nat} : u2 (tkJ M p j) 49 j (M 37 (24 * p + j)) = tkJ M p (j + 1) := by
  funext s k
  show (if s = 49 ∧ k = j then M 37 (24 * p + j) else if s = 49 ∧ k < j then M 37 (24 * p + k) else M s k) = if s = 49 ∧ k < j + 1 then M 37 (24 * p + k) else M s k
  by_cases c1 : s = 49 ∧ k = j
  · rw [if_pos c1, if_pos (by omega), c1.2]
  · rw [if_neg c1]
    by_cases c2 : s = 49 ∧ k < j
    · rw [if_pos c2, if_pos (by omega)]
    · rw [if_neg c2, if_neg (by omega)]
/-- what is heard: the message taken out, the term learnt -/
def lrnP (P : PT) (p : Nat) : PT := if P.1 37 (24 * p) ≤ 3 then (learnS (leaveS (takeS (u2 P.1 40 0 0) p) p) (nt (P.1 37 (24 * p + 2))) (P.1 37 (24 * p + 3)), leaveF P.1 P.2 p) else (leaveS (takeS (u2 P.1 40 0 0) p) p, leaveF P.1 P.2 p)
theorem delivP_K {P : PT} {p : Nat} : delivP P p = (endsS (hearK (lrnP P p) (nt (P.1 37 (24 * p + 2))) (fun j => P.1 37 (24 * p + j)) (P.2 38 p)).1, (hearK (lrnP P p) (nt (P.1 37 (24 * p + 2))) (fun j => P.1 37 (24 * p + j)) (P.2 38 p)).2) := rfl
theorem learn_hit {A : SI} {m : Nat} {t : Int32} (w : A 9 m < t) : learnS A m t = followS (u2 (u2 A 9 m t) 10 m (-1)) m := if_pos w
theorem learn_mis {A : SI} {m : Nat} {t : Int32} (w : ¬ A 9 m < t) : learnS A m t = A := if_neg w
theorem learn_ne {A : SI} {m s k : Nat} {t : Int32} (h9 : s ≠ 9) (h10 : s ≠ 10) (h11 : s ≠ 11) (h23 : s ≠ 23) : learnS A m t s k = A s k := by
  unfold learnS
  split
  · unfold followS
    rw [u2_ne (by omega), u2_ne (by omega), u2_ne (by omega), u2_ne (by omega)]
  · rfl
/-- from the terms on -/
theorem x_del_143 {A : SI} {m kd na : Nat} {w : RW} {x : UInt32} (hr : RC S F e (A, G, c) h) (hM : A 1000 0 = 0) (hm : m < 5) (hw : ∀ i, i < 24 → A 49 i = w i) (hk : w 0 = Int32.ofNat kd) (hw2 : w 2 = Int32.ofNat m) (hk7 : kd ≤ 7) (hn : A 0 0 = Int32.ofNat n) (hn5 : n = 3 ∨ n = 5) (hl : A 12 m = Int32.ofNat l) (h30 : l ≤ 30) (hq : A 39 0 = Int32.ofNat q) (hq60 : q ≤ 60) (HY : HYK (if w 0 ≤ 3 then learnS A m (w 3) else A) G m n kd w x) (H : ENDH (hearK (if w 0 ≤ 3 then learnS A m (w 3) else A, G) m w x).1 n na) (hMh : (hearK (if w 0 ≤ 3 then learnS A m (w 3) else A, G) m w x).1 1000 0 = 0) {v1 v2 v3 : Int32} {u5 u6 : Option Value} (k : ∀ h', RC S F e (endsS (hearK (if w 0 ≤ 3 then learnS A m (w 3) else A, G) m w x).1, (hearK (if w 0 ≤ 3 then learnS A m (w 3) else A, G) m w x).2, c) h' → Q (.inl (some (.int ((hearK (if w 0 ≤ 3 then learnS A m (w 3) else A, G) m w x).1 40 0)))) h') : WP (d + 3) mX12_deliver 143 [some (.ref 210), some (.int v1), some (.int v2), some (.int v3), some (.float x), u5, u6] [] h Q := by
  have a0 : A 49 0 = Int32.ofNat kd := (hw 0 (by omega)).trans hk
  have a2 : A 49 2 = Int32.ofNat m := (hw 2 (by omega)).trans hw2
  have a3 : A 49 3 = w 3 := hw 3 (by omega)
  have fin : ∀ h', RC S F e ((hearK (if w 0 ≤ 3 then learnS A m (w 3) else A, G) m w x).1, (hearK (if w 0 ≤ 3 then learnS A m (w 3) else A, G) m w x).2, c) h' → WP (d + 3) mX12_deliver 325 [some (.ref 210), some (.int v1), some (.int v2), some (.int v3), some (.float x), some (.int (Int32.ofNat kd)), some (.int (Int32.ofNat m))] [] h' Q := by
    intro h' hr'
    refine bX12_deliver_325 ⟨by decide, q0 hr' hMh, x_endsH hr' hMh H ?_⟩
    intro h2 hr2
    rw [KK_ret]
    have hM2 : endsS (hearK (if w 0 ≤ 3 then learnS A m (w 3) else A, G) m w x).1 1000 0 = 0 := (ends_9 _ (by decide)).trans hMh
    refine bX12_deliver_329 ⟨q0 hr2 hM2, ?_⟩
    rw [qI_40 hr2 hM2, ends_9 _ (by decide)]
    exact k h2 hr2
  have hw3 : (w 0 ≤ 3) = (kd ≤ 3) := by rw [hk, o_len _ _ (by decide) (by omega)]
  have hw3' : ((3 : Int32) < Int32.ofNat kd) = (3 < kd) := o_nlt 3 kd (by decide) (by omega)
  refine bX12_deliver_143 ?_
  have i0 : inA h 252 (0 : Int32) = true := qi_49 hr hM (i := 0) (by omega)
  have i2 : inA h 252 (2 : Int32) = true := qi_49 hr hM (i := 2) (by omega)
  have i3 : inA h 252 (3 : Int32) = true := qi_49 hr hM (i := 3) (by omega)
  have n0 : (0 : Int32).toNatClampNeg = 0 := rfl
  have n2 : (2 : Int32).toNatClampNeg = 2 := rfl
  have n3 : (3 : Int32).toNatClampNeg = 3 := rfl
  simp (disch := omega) only [q0 hr hM, qR_49 hr hM, qK_49 hr hM, qi_49 hr hM, qA_49 hr hM, qR_9 hr hM, qK_9 hr hM, qi_9 hr hM, qA_9 hr hM, qR_10 hr hM, qK_10 hr hM, qi_10 hr hM, qA_10 hr hM, i0, i2, i3, n0, n2, n3, a0, a2, a3, hw3', o_c, o_add, o_addn, o_nadd, o_muln, o_le, o_lt, o_nle, o_len, o_nlt, o_ltn, o_eq, o_eqn, o_neq, o_sub1, true_and]
  refine ⟨fun k3 => ?_, fun k3 => ⟨fun t => ?_, fun t => ⟨by decide, ?_⟩⟩⟩
  · have ew : ¬ w 0 ≤ 3 := by rw [hw3]; omega
    rw [if_neg ew] at HY
    simp only [if_neg ew] at fin
    exact x_hear hr hM hm hw hk hk7 hn hn5 hl h30 hq hq60 HY fin
  · have ew : w 0 ≤ 3 := by rw [hw3]; omega
    have el : learnS A m (w 3) = A := learn_mis (Int32.not_lt.mpr t)
    rw [if_pos ew, el] at HY
    simp only [if_pos ew, el] at fin
    exact x_hear hr hM hm hw hk hk7 hn hn5 hl h30 hq hq60 HY fin
  · have ew : w 0 ≤ 3 := by rw [hw3]; omega
    have el : learnS A m (w 3) = followS (u2 (u2 A 9 m (w 3)) 10 m (-1)) m := learn_hit (Int32.not_le.mp t)
    rw [if_pos ew] at HY
    simp only [if_pos ew] at fin
    refine x_follows (rm_10 m (-1) (rm_9 m (w 3) hr)) hM hm ?_
    intro h' hr'
    rw [KK_ret]
    rw [← el] at hr'
    have ne : ∀ s k, s ≠ 9 → s ≠ 10 → s ≠ 11 → s ≠ 23 → learnS A m (w 3) s k = A s k := fun s k h1 h2 h3 h4 => learn_ne h1 h2 h3 h4
    exact x_hear hr' ((ne _ _ (by decide) (by decide) (by decide) (by decide)).trans hM) hm (fun i hi => (ne _ _ (by decide) (by decide) (by decide) (by decide)).trans (hw i hi)) hk hk7 ((ne _ _ (by decide) (by decide) (by decide) (by decide)).trans hn) hn5 ((ne _ _ (by decide) (by decide) (by decide) (by decide)).trans hl) h30 ((ne _ _ (by decide) (by decide) (by decide) (by decide)).trans hq) hq60 HY fin
theorem x_del_98 (hM : M 1000 0 = 0) {p : Nat} (hp : p < 60) (hq : M 39 0 = Int32.ofNat q) (hq60 : q ≤ 60) (hpq : p < q) {v2 v3 : Int32} {u5 u6 : Option Value} (k : ∀ h', RC S F e (leaveS (tkJ M p 24) p, leaveF (tkJ M p 24) G p, c) h' → WP (d + 3) mX12_deliver 143 [some (.ref 210), some (.int (Int32.ofNat p)), some (.int v2), some (.int v3), some (.float (G 38 p)), u5, u6] [] h' Q) :
    ∀ (t j : Nat) (h : HP), j + t = 24 → RC S F e (tkJ M p j, G, c) h → WP (d + 3) mX12_deliver 98 [some (.ref 210), some (.int (Int32.ofNat p)), some (.int v2), some (.int v3), some (.int (Int32.ofNat j)), u5, u6] [] h Q := by
  intro t
  induction t with
  | zero =>
    intro j h hj hr
    obtain rfl : j = 24 := by omega
    have hM' : tkJ M p 24 1000 0 = 0 := hM
    refine bX12_deliver_98 ?_
    have hM := hM'
    simp (disch := omega) only [q0 hr hM, qR_38 hr hM, qK_38 hr hM, qi_38 hr hM, qA_38 hr hM, o_c, o_add, o_addn, o_nadd, o_muln, o_le, o_lt, o_nle, o_len, o_nlt, o_ltn, o_eq, o_eqn, o_neq, o_sub1, true_and]
    refine ⟨fun _ => ⟨by decide, x_leaves (M := tkJ M p 24) hr hM' hq hq60 hpq ?_⟩, fun w => absurd (Nat.le_refl _) w⟩
    intro h' hr'
    rw [KK_ret]
    exact k h' hr'
  | succ t ih =>
    intro j h hj hr
    have hM' : tkJ M p j 1000 0 = 0 := hM
    have e37 : tkJ M p j 37 (24 * p + j) = M 37 (24 * p + j) := if_neg (fun w => absurd w.1 (by decide))
    refine bX12_deliver_98 ?_
    have hM := hM'
    simp (disch := omega) only [q0 hr hM, qR_37 hr hM, qK_37 hr hM, qi_37 hr hM, qA_37 hr hM, qR_49 hr hM, qK_49 hr hM, qi_49 hr hM, qA_49 hr hM, e37, o_c, o_add, o_addn, o_nadd, o_muln, o_le, o_lt, o_nle, o_len, o_nlt, o_ltn, o_eq, o_eqn, o_neq, o_sub1, true_and]
    refine ⟨fun w => by omega, fun _ => ih (j + 1) _ (by omega) ?_⟩
    rw [← tkJ_succ]
    exact rm_49 j (M 37 (24 * p + j)) hr
/-- whether message p can be delivered -/
def dlvB (M : SI) (p : Nat) : Prop := ¬ M 5 (nt (M 37 (24 * p + 2))) = 0 ∧ M 6 (5 * nt (M 37 (24 * p + 1)) + nt (M 37 (24 * p + 2))) = 0
theorem x_deliver {na : Nat} (hr : RC S F e (M, G, c) h) (hM : M 1000 0 = 0) (hn : M 0 0 = Int32.ofNat n) (hn5 : n = 3 ∨ n = 5) (hl : ∀ m, m < 5 → ∃ l, M 12 m = Int32.ofNat l ∧ l ≤ 30) (hq : M 39 0 = Int32.ofNat q) (hq60 : q ≤ 60) (hcz : ∀ k, k < 25 → M 6 k = 0 ∨ M 6 k = 1)
    (hK : ∀ p, p < q → ∃ m f kd, M 37 (24 * p + 2) = Int32.ofNat m ∧ M 37 (24 * p + 1) = Int32.ofNat f ∧ M 37 (24 * p) = Int32.ofNat kd ∧ m < 5 ∧ f < 5 ∧ kd ≤ 7 ∧ HYK (lrnP (stepS (u2 M 50 0 0), G) p).1 (lrnP (stepS (u2 M 50 0 0), G) p).2 m n kd (fun j => M 37 (24 * p + j)) (G 38 p))
    (H : ∀ p, p < q → dlvB M p → ENDH (hearK (lrnP (stepS (u2 M 50 0 0), G) p) (nt (M 37 (24 * p + 2))) (fun j => M 37 (24 * p + j)) (G 38 p)).1 n na ∧ (hearK (lrnP (stepS (u2 M 50 0 0), G) p) (nt (M 37 (24 * p + 2))) (fun j => M 37 (24 * p + j)) (G 38 p)).1 1000 0 = 0)
    {x : Int32} {u2' u3 u4 u5 u6 : Option Value} (k3 : ¬ (0 ≤ x.toInt ∧ x.toInt < q) → ∀ h', RC S F e (u2 M 50 0 1, G, c) h' → Q (.inl (some (.int 0))) h') (k2 : ∀ p, x = Int32.ofNat p → p < q → ¬ dlvB M p → ∀ h', RC S F e (u2 M 50 0 2, G, c) h' → Q (.inl (some (.int 0))) h') (k : ∀ p, x = Int32.ofNat p → p < q → dlvB M p → ∀ h', RC S F e ((delivP (stepS (u2 M 50 0 0), G) p).1, (delivP (stepS (u2 M 50 0 0), G) p).2, c) h' → Q (.inl (some (.int ((delivP (stepS (u2 M 50 0 0), G) p).1 40 0)))) h') : WP (d + 3) mX12_deliver 0 [some (.ref 210), some (.int x), u2', u3, u4, u5, u6] [] h Q := by
  refine bX12_deliver_0 ⟨by decide, q0 hr hM, x_isMessage hr hM hq hq60 ?_⟩
  rw [KK_ret]
  by_cases cx : 0 ≤ x.toInt ∧ x.toInt < q
  · rw [decide_eq_true cx]
    obtain ⟨p, hp, hpq⟩ := o_in cx (by omega)
    have kk := k p hp hpq
    have kb := k2 p hp hpq
    subst hp
    obtain ⟨m, f, kd, hw2, hw1, hw0, hm5, hf5, hkd, HY⟩ := hK p hpq
    obtain ⟨l, hl1, hl2⟩ := hl m hm5
    have enm : nt (M 37 (24 * p + 2)) = m := nt_of hw2 (by omega)
    have enf : nt (M 37 (24 * p + 1)) = f := nt_of hw1 (by omega)
    have HH := H p hpq
    unfold dlvB at kk kb HH
    rw [enm, enf] at kk kb HH
    have bad : ¬ (¬ M 5 m = 0 ∧ M 6 (5 * f + m) = 0) → WP (d + 2) mX12_goes 0 [some (.ref 210), some (.int (b2i true)), some (.int 0), some (.int 1)] [] h (KK (d + 2) mX12_deliver mX12_goes 72 [some (.ref 210), some (.int (Int32.ofNat p)), some (.int (b2i true)), some (.int 0), u4, u5, u6] [] Q) := by
      intro nc
      refine x_goes (a := true) (b := false) (g := true) hr hM ?_
      intro h1 hr1
      rw [KK_ret]
      exact bX12_deliver_75 ⟨fun w => absurd rfl w, fun _ => kb nc h1 hr1⟩
    refine bX12_deliver_5 ⟨fun w => absurd w (by decide), fun _ => ?_⟩
    simp (disch := omega) only [q0 hr hM, qR_37 hr hM, qK_37 hr hM, qi_37 hr hM, qA_37 hr hM, qR_5 hr hM, qK_5 hr hM, qi_5 hr hM, qA_5 hr hM, qR_6 hr hM, qK_6 hr hM, qi_6 hr hM, qA_6 hr hM, hw2, hw1, o_c, o_add, o_addn, o_nadd, o_muln, o_le, o_lt, o_nle, o_len, o_nlt, o_ltn, o_eq, o_eqn, o_neq, o_sub1, true_and]
    refine ⟨fun c5 => ⟨by decide, bad (fun z => z.1 c5)⟩, fun c5 => ⟨fun c6 => ⟨by decide, bad (fun z => c6 z.2)⟩, fun c6 => ⟨by decide, ?_⟩⟩⟩
    refine x_goes (a := true) (b := true) (g := true) hr hM ?_
    intro h1 hr1
    rw [KK_ret]
    have cc : ¬ M 5 m = 0 ∧ M 6 (5 * f + m) = 0 := ⟨c5, Classical.not_not.mp c6⟩
    have kc := kk cc
    have HC := HH cc
    have hM1 : u2 M 50 0 0 1000 0 = 0 := hM
    have e4 : hI h1 1204 210 = M 4 0 := qI_4 (M := u2 M 50 0 0) hr1 hM1
    have r1 : RC S F e (u2 (stepS (u2 M 50 0 0)) 40 0 0, G, c) (sI (sI h1 1204 210 (M 4 0 + 1)) 1240 210 0) := rm_40 0 (rm_4 (M 4 0 + 1) hr1)
    refine bX12_deliver_75 ⟨fun _ => ⟨q0 (M := u2 M 50 0 0) hr1 hM1, ?_⟩, fun w => absurd (by decide) w⟩
    rw [e4]
    have eT : tkJ (u2 (stepS (u2 M 50 0 0)) 40 0 0) p 0 = u2 (stepS (u2 M 50 0 0)) 40 0 0 := by
      funext s k
      unfold tkJ
      rw [if_neg (by omega)]
    rw [← eT] at r1
    refine x_del_98 (S := S) (F := F) (e := e) (G := G) (c := c) (M := u2 (stepS (u2 M 50 0 0)) 40 0 0) (p := p) hM (by omega) hq hq60 hpq ?_ 24 0 _ rfl r1
    intro h2 hr2
    rw [delivP_K] at kc
    have e2 : nt ((stepS (u2 M 50 0 0), G).1 37 (24 * p + 2)) = m := enm
    have eL : lrnP (stepS (u2 M 50 0 0), G) p = (if (fun j => M 37 (24 * p + j)) 0 ≤ 3 then learnS (leaveS (tkJ (u2 (stepS (u2 M 50 0 0)) 40 0 0) p 24) p) m ((fun j => M 37 (24 * p + j)) 3) else leaveS (tkJ (u2 (stepS (u2 M 50 0 0)) 40 0 0) p 24) p, leaveF (tkJ (u2 (stepS (u2 M 50 0 0)) 40 0 0) p 24) G p) := by
      unfold lrnP
      rw [e2]
      show (if M 37 (24 * p) ≤ 3 then _ else _) = _
      by_cases z : M 37 (24 * p) ≤ 3
      · rw [if_pos z, if_pos (show (fun j => M 37 (24 * p + j)) 0 ≤ 3 from z)]
        rfl
      · rw [if_neg z, if_neg (show ¬ (fun j => M 37 (24 * p + j)) 0 ≤ 3 from z)]
        rfl
    rw [eL] at HY HC kc
    rw [e2] at kc
    have hA : ∀ i, i < 24 → leaveS (tkJ (u2 (stepS (u2 M 50 0 0)) 40 0 0) p 24) p 49 i = (fun j => M 37 (24 * p + j)) i := by
      intro i hi
      unfold leaveS tkJ
      rw [if_neg (by omega), if_neg (by omega), if_pos ⟨rfl, hi⟩]
      rfl
    have h39 : leaveS (tkJ (u2 (stepS (u2 M 50 0 0)) 40 0 0) p 24) p 39 0 = Int32.ofNat (q - 1) := by
      show M 39 0 - 1 = _
      rw [hq, o_sub1 _ (by omega)]
    exact x_del_143 (kd := kd) (w := fun j => M 37 (24 * p + j)) (x := G 38 p) (m := m) hr2 hM hm5 hA hw0 hw2 hkd hn hn5 hl1 hl2 h39 (by omega) HY HC.1 HC.2 kc
  · rw [decide_eq_false cx]
    refine bX12_deliver_5 ⟨fun _ => ⟨by decide, q0 hr hM, x_goes (a := false) (b := false) (g := true) hr hM ?_⟩, fun w => absurd rfl w⟩
    intro h1 hr1
    rw [KK_ret]
    exact bX12_deliver_75 ⟨fun w => absurd rfl w, fun _ => k3 cx h1 hr1⟩
end REFU
