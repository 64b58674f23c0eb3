/-! ===== a delivery, in whole ===== -/
section HEARD
variable {st n na : Nat} {g : YG} {pa : Nat → ZA} {pv : Nat → ZV} {S S' : SI} {F F' : SF} {m : Nat} {w : RW} {c : UInt32}
theorem clockC_pf {x : Int32} (h : ∀ o, o < 5 → S 21 (5 * m + o) = 1 → fpF (F 22 (5 * m + o))) : ∀ j, j ≤ 5 → fpF (clockC S F m x j) := by
  intro j
  induction j with
  | zero => exact fun _ => PQ_c0.pf
  | succ j ih =>
    intro hj
    rw [clockC_s]
    split
    · rename_i cc
      have e : ckF S F m j = F 22 (5 * m + j) := if_pos cc.1
      rw [e]
      exact h j (by omega) cc.1
    · exact ih (by omega)
theorem tk_pf {f : Nat} (hc : fpF c) (h : S 21 (5 * m + f) = 1 → fpF (F 22 (5 * m + f))) : fpF (tkF S F m f c) := by
  unfold tkF ckF
  by_cases z : S 21 (5 * m + f) = 1
  · rw [if_pos z]
    split
    · exact h z
    · exact hc
  · rw [if_neg z]
    split
    · exact PQ_c0.pf
    · exact hc
/-- what a message of terms asks where it is dealt with, in the class's way -/
theorem hrl_of (hst : st < 2000) (h : INVw st n na g pa pv S F) (hm : m < n) (hw2 : w 2 = Int32.ofNat m) (hK : MOK n st (tmS S) g (blS S) pa pv w c) {kd : Nat} (hw0 : w 0 = Int32.ofNat kd) (hk3 : kd ≤ 3) : HRL S F m w c := by
  obtain ⟨⟨a1, a2, a3, s0, a4, a5⟩, hM, hC, ⟨hR1, hR2, hR3, hR4, hR5, hR6, hR7, hR8⟩, hP, hZ, hE, hH, ⟨q, hq, hq60, _⟩, ⟨f1, f2, f3, f4, f5, f6⟩⟩ := id h
  have n5 : n ≤ 5 := by omega
  obtain ⟨kd', f, m', k0, k7, k1, kf, k2, km, kfm, kc, kA, _⟩ := hK
  have hkd : kd' = kd := o_inj (k0.symm.trans hw0) (by omega) (by omega)
  subst hkd
  have hmm : m' = m := o_inj (k2.symm.trans hw2) (by omega) (by omega)
  subst hmm
  obtain ⟨t, b1, b2, b3, _, _, b6, _⟩ := kA hk3
  obtain ⟨⟨l, hl, hl30, c0, hc0, hc0l⟩, _, _, _, _, _, gr, hgr, hgr32⟩ := hM m' (by omega)
  have nn1 := (f3.pf).nn
  have nn2 := (PF_mul f2 f3).nn
  refine ⟨⟨q, hq, hq60⟩, ⟨l, hl, hl30⟩, by rw [hc0, o_i _ (by omega)]; omega, ⟨f, k1, by omega⟩, ⟨gr, hgr, hgr32⟩, fun o ho => (hC _ (by omega)).2, (PF_add (f4 m' (by omega)).1 f2.pf).nn, nn1, nn2, fun hz => ?_, fun hz S2 f' e21 e0 hf' hf5 => ?_⟩
  · have hkd2 : kd' = 2 := o_inj (k0.symm.trans hz) (by omega) (by omega)
    obtain ⟨hw, p, mn, cm, q1, q2, q3, q4, q5, q6, _⟩ := b6 hkd2
    have := hR7 t
    refine ⟨p, mn, by omega, q3, q1, q2, fun k hk => ?_, fun hp => ?_⟩
    · have hg := q6 k hk
      obtain ⟨o1, o2⟩ := hR6 t _ (List.mem_of_getElem? hg)
      intro z
      have z2 : yT (w (10 + 4 * k), w (11 + 4 * k), w (12 + 4 * k), w (13 + 4 * k)) = 0 := by
        unfold yT
        show nt (w (10 + 4 * k)) = 0
        rw [z]; rfl
      omega
    · obtain ⟨p', rfl⟩ : ∃ p', p = p' + 1 := ⟨p - 1, by omega⟩
      have hlt : p' < (yL g t).length := by omega
      have hge : (yL g t)[p']? = some (yL g t)[p'] := List.getElem?_eq_getElem hlt
      rw [q5, tmL_some hge]
      obtain ⟨o1, o2⟩ := hR6 t _ (List.mem_of_getElem? hge)
      intro z
      have z2 : yT (yL g t)[p'] = 0 := by
        unfold yT
        rw [z]; rfl
      omega
  · have e1 : f' = f := o_inj (hf'.symm.trans k1) (by omega) (by omega)
    subst e1
    have h21 : ∀ o, o < 5 → S2 21 (5 * m' + o) = 1 → fpF (F 22 (5 * m' + o)) := fun o ho hz => f5 _ (by omega) (by rw [← e21]; exact hz)
    refine (PF_add (clockC_pf (fun o ho hz => ?_) 5 (Nat.le_refl _)) (PF_mul f2 f3)).nn
    by_cases z : o = f'
    · subst z
      rw [u2_eq]
      exact tk_pf kc (h21 o (by omega))
    · rw [u2_ne (by omega)] at hz
      rw [u2_ne (by omega)]
      exact h21 o ho hz
/-- a message of ballots, in the class's way -/
theorem hrb_of (hst : st < 2000) (h : INV st n na g pa pv S F) (hm : m < n) (hw2 : w 2 = Int32.ofNat m) (hK : MOK n st (tmS S) g (blS S) pa pv w c) {kd : Nat} (hw0 : w 0 = Int32.ofNat kd) (hk4 : 4 ≤ kd) (hk7 : kd ≤ 7) : ∃ j, j < 4 ∧ w 6 = Int32.ofNat j ∧ HRB S m j w := by
  obtain ⟨⟨a1, a2, a3, _⟩, _, _, _, hP, hZ, _, _, ⟨q, hq, hq60, _⟩, _⟩ := id h
  have n5 : n ≤ 5 := by omega
  obtain ⟨f, d, b, kf, kfm, k1, hd, k6, k3, kb, _⟩ := hK.bal hm n5 hw2 hw0 hk4 hk7
  obtain ⟨z35, ⟨g1, z33, z33b⟩, ⟨g2, z36, z36b⟩, z34⟩ := hZ (4 * m + d) (by omega)
  exact ⟨d, hd, k6, ⟨n, a1, n5⟩, ⟨q, hq, hq60⟩, by rw [k3, Ne, o_ne1 _ (by omega)]; exact id, ⟨f, k1, by omega⟩, z35, ⟨g1, fun _ => ⟨z33, z33b⟩⟩, ⟨g2, fun _ => ⟨z36, z36b⟩⟩, fun _ => z34⟩
/-- what a message asks where it is dealt with, in the reference's way -/
theorem hyk_of (hst : st < 2000) (h : INVw st n na g pa pv S F) (hm : m < n) (hw2 : w 2 = Int32.ofNat m) (hK : MOK n st (tmS S) g (blS S) pa pv w c) {kd : Nat} (hw0 : w 0 = Int32.ofNat kd) (hk7 : kd ≤ 7) : HYK S F m n kd w c := by
  obtain ⟨⟨a1, a2, a3, s0, a4, a5⟩, hM, hC, ⟨hR1, hR2, hR3, hR4, hR5, hR6, hR7, hR8⟩, hP, hZ, hE, hH, _, ⟨f1, f2, f3, f4, f5, f6⟩⟩ := id h
  have n5 : n ≤ 5 := by omega
  have n2 : 2 ≤ n := by omega
  obtain ⟨kd', f, m', k0, k7, k1, kf, k2, km, kfm, kc, kA, kB⟩ := id hK
  have hkd : kd' = kd := o_inj (k0.symm.trans hw0) (by omega) (by omega)
  subst hkd
  have hmm : m' = m := o_inj (k2.symm.trans hw2) (by omega) (by omega)
  subst hmm
  refine ⟨fun hz => ?_, fun hz => ?_, fun hz => ?_⟩
  · subst hz
    obtain ⟨_, _, _, _, _, _, _, _, _, k, _⟩ := hrl_of hst h hm hw2 hK hw0 (by omega)
    obtain ⟨p, mn, c1, c2, c3, c4, c5, c6⟩ := k hw0
    refine ⟨p, mn, c3, c4, c1, c2, ⟨fun z => ?_, fun z => ?_⟩, c5, (PF_add (f4 m' (by omega)).1 f2.pf).nn⟩
    · obtain ⟨t, b1, b2, b3, _, _, b6, _⟩ := kA (by omega)
      obtain ⟨_, p2, mn2, cm, q1, q2, q3, q4, q5, _⟩ := b6 rfl
      have hp30 := hR7 t
      have e : p2 = p := o_inj (q1.symm.trans c3) (by omega) (by omega)
      subst e
      rw [q5, z, tmL_0]
    · apply Classical.byContradiction
      intro y
      exact c6 y z
  · have enf : nt (w 1) = f := nt_of k1 (by omega)
    refine ⟨⟨f, k1, by omega⟩, fun j hj => (hC _ (by omega)).2, fun _ => ⟨f3.pf.nn, (PF_mul f2 f3).nn, ?_⟩⟩
    refine (PF_add (best_pf (n := n) n2 (fun o ho hz => ?_) n n5) (PF_mul f2 f3)).nn
    have hz' : u2 (commitS (sameS S m' w) m') 21 (5 * m' + nt (w 1)) 1 21 (5 * m' + o) = 1 := hz
    show fpF (u2 F 22 (5 * m' + nt (w 1)) (if commitS (sameS S m' w) m' 21 (5 * m' + nt (w 1)) = 1 ∧ 0 < Op.cmpValue (FP.fcmp (F 22 (5 * m' + nt (w 1))) c) .l then F 22 (5 * m' + nt (w 1)) else c) 22 (5 * m' + o))
    rw [enf] at hz' ⊢
    have e21 : ∀ k, commitS (sameS S m' w) m' 21 k = S 21 k := fun k => (com_ne (Or.inl (by decide))).trans (same_ne (by decide))
    by_cases z : o = f
    · subst z
      rw [u2_eq, e21]
      split
      · rename_i y
        exact f5 _ (by omega) y.1
      · exact kc
    · rw [u2_ne (by omega), e21] at hz'
      rw [u2_ne (by omega)]
      exact f5 _ (by omega) hz'
  · obtain ⟨d, b, d1, d2, _⟩ := kB hz
    exact ⟨d, d1, d2, (hZ (4 * m' + d) (by omega)).1⟩
theorem heard_ (hst : st < 1000) (h : INV st n na g pa pv S F) {p q : Nat} (hq : S 39 0 = Int32.ofNat q) (hq60 : q ≤ 60) (hp : p < q) : ∃ m f kd, S 37 (24 * p + 2) = Int32.ofNat m ∧ m < n ∧ S 37 (24 * p + 1) = Int32.ofNat f ∧ f < n ∧ S 37 (24 * p) = Int32.ofNat kd ∧ kd ≤ 7 ∧
    (∃ g' pa' pv', INVw (st + 1) n na g' pa' pv' (hearK (lrnP (stepS S, F) p) m (fun j => S 37 (24 * p + j)) (F 38 p)).1 (hearK (lrnP (stepS S, F) p) m (fun j => S 37 (24 * p + j)) (F 38 p)).2) ∧
    hearC (delS (stepS S) p, leaveF (stepS S) F p) m (fun j => S 37 (24 * p + j)) (F 38 p) = hearK (lrnP (stepS S, F) p) m (fun j => S 37 (24 * p + j)) (F 38 p) ∧
    HRK (delS (stepS S) p) (leaveF (stepS S) F p) (fun j => S 37 (24 * p + j)) (F 38 p) ∧
    HYK (lrnP (stepS S, F) p).1 (lrnP (stepS S, F) p).2 m n kd (fun j => S 37 (24 * p + j)) (F 38 p) := by
  obtain ⟨hD, hK⟩ := inv_del hst h hq hq60 hp
  have n5 : n ≤ 5 := by have := h.1.2.1; omega
  have eD : ∀ r k, r ≠ 4 → r ≠ 37 → r ≠ 39 → r ≠ 40 → r ≠ 49 → delS (stepS S) p r k = S r k := by
    intro r k q4 q37 q39 q40 q49
    unfold delS
    rw [leaveS_ne q37 q39]
    unfold takeS
    rw [if_neg (fun z => q49 z.1), u2_ne (Or.inl q40)]
    exact st_ne q4
  have e1 : tmS (delS (stepS S) p) = tmS S := by
    funext i
    unfold tmS
    rw [eD 9 i (by decide) (by decide) (by decide) (by decide) (by decide)]
  have e3 : blS (delS (stepS S) p) = blS S := by
    funext d a
    unfold blS
    rw [eD 27 _ (by decide) (by decide) (by decide) (by decide) (by decide)]
  have hKD : MOK n (st + 1) (tmS (delS (stepS S) p)) g (blS (delS (stepS S) p)) pa pv (fun j => S 37 (24 * p + j)) (F 38 p) := by rw [e1, e3]; exact hK
  obtain ⟨kd, f, m, k0, k7, k1, kf, k2, km, kfm, kc, kA, kB⟩ := id hKD
  have k2' : S 37 (24 * p + 2) = Int32.ofNat m := k2
  have k1' : S 37 (24 * p + 1) = Int32.ofNat f := k1
  have k0' : S 37 (24 * p) = Int32.ofNat kd := k0
  have enm : nt ((stepS S, F).1 37 (24 * p + 2)) = m := nt_of k2' (by omega)
  have eL : lrnP (stepS S, F) p = (if S 37 (24 * p) ≤ 3 then (learnS (delS (stepS S) p) m (S 37 (24 * p + 3)), leaveF (stepS S) F p) else (delS (stepS S) p, leaveF (stepS S) F p)) := by
    unfold lrnP
    rw [enm]
    rfl
  have hw3 : (S 37 (24 * p) ≤ 3) = (kd ≤ 3) := by rw [k0', o_len _ _ (by decide) (by omega)]
  have eC : ∀ P1 : PT, (if S 37 (24 * p) ≤ 3 then (learnS (delS (stepS S) p) m (S 37 (24 * p + 3)), leaveF (stepS S) F p) else (delS (stepS S) p, leaveF (stepS S) F p)) = P1 → hearC (delS (stepS S) p, leaveF (stepS S) F p) m (fun j => S 37 (24 * p + j)) (F 38 p) = (if S 37 (24 * p) = 0 then askedP P1 m (fun j => S 37 (24 * p + j)) else if S 37 (24 * p) = 1 then (votedS P1.1 m (fun j => S 37 (24 * p + j)), P1.2) else if S 37 (24 * p) = 2 then appendedP P1 m (fun j => S 37 (24 * p + j)) (F 38 p) else if S 37 (24 * p) = 3 then ackedC P1 m (fun j => S 37 (24 * p + j)) (F 38 p) else if S 37 (24 * p) = 4 then preparedP P1 m (fun j => S 37 (24 * p + j)) else if S 37 (24 * p) = 5 then promisedP P1 m (fun j => S 37 (24 * p + j)) else if S 37 (24 * p) = 6 then acceptedP P1 m (fun j => S 37 (24 * p + j)) else (countsC P1.1 m (fun j => S 37 (24 * p + j)), P1.2)) := by
    intro P1 hP1
    rw [← hP1]
    rfl
  have eK : ∀ P1 : PT, hearK P1 m (fun j => S 37 (24 * p + j)) (F 38 p) = (if S 37 (24 * p) = 0 then askedP P1 m (fun j => S 37 (24 * p + j)) else if S 37 (24 * p) = 1 then (votedS P1.1 m (fun j => S 37 (24 * p + j)), P1.2) else if S 37 (24 * p) = 2 then appendedP P1 m (fun j => S 37 (24 * p + j)) (F 38 p) else if S 37 (24 * p) = 3 then ackedP P1 m (fun j => S 37 (24 * p + j)) (F 38 p) else if S 37 (24 * p) = 4 then preparedP P1 m (fun j => S 37 (24 * p + j)) else if S 37 (24 * p) = 5 then promisedP P1 m (fun j => S 37 (24 * p + j)) else if S 37 (24 * p) = 6 then acceptedP P1 m (fun j => S 37 (24 * p + j)) else (countsS P1.1 m (fun j => S 37 (24 * p + j)), P1.2)) := fun _ => rfl
  have kn : ∀ j, j < 8 → kd ≠ j → ¬ S 37 (24 * p) = Int32.ofNat j := by
    intro j hj hne z
    rw [k0'] at z
    exact hne (o_inj z (by omega) (by omega))
  refine ⟨m, f, kd, k2', km, k1', kf, k0', k7, ?_⟩
  rw [eL]
  by_cases c3 : kd ≤ 3
  · have c3' : S 37 (24 * p) ≤ 3 := by rw [hw3]; exact c3
    have eC' := eC (learnS (delS (stepS S) p) m (S 37 (24 * p + 3)), leaveF (stepS S) F p) (if_pos c3')
    rw [if_pos c3', eC', eK]
    obtain ⟨t, b1, b2, b3, _⟩ := kA c3
    have b1' : S 37 (24 * p + 3) = Int32.ofNat t := b1
    obtain ⟨hL, mono, htl⟩ := inv_learn (st := st + 1) (by omega) hD.weak km (t := t) b3
    rw [← b1'] at hL mono htl
    have hKL := mono _ _ hKD
    have hrk : HRK (delS (stepS S) p) (leaveF (stepS S) F p) (fun j => S 37 (24 * p + j)) (F 38 p) := ⟨m, f, kd, k2, k1, k0, by omega, by omega, k7, fun _ => hrl_of (by omega) hD.weak km k2 hKD k0 c3, fun z => by omega⟩
    have hyk := hyk_of (by omega) hL km k2 hKL k0 k7
    have hk : kd = 0 ∨ kd = 1 ∨ kd = 2 ∨ kd = 3 := by omega
    rcases hk with rfl | rfl | rfl | rfl
    · have kk : S 37 (24 * p) = 0 := k0'
      rw [if_pos kk]
      obtain ⟨g', hg⟩ := inv_asked (by omega) hL km k2 kk hKL
      rw [if_pos kk]
      exact ⟨⟨g', pa, pv, hg⟩, rfl, hrk, hyk⟩
    · have z0 : ¬ S 37 (24 * p) = 0 := kn 0 (by omega) (by omega)
      have kk : S 37 (24 * p) = 1 := k0'
      rw [if_neg z0, if_pos kk, if_neg z0, if_pos kk]
      obtain ⟨g', hg⟩ := inv_voted (by omega) hL km k2 kk hKL
      exact ⟨⟨g', pa, pv, hg⟩, rfl, hrk, hyk⟩
    · have z0 : ¬ S 37 (24 * p) = 0 := kn 0 (by omega) (by omega)
      have z1 : ¬ S 37 (24 * p) = 1 := kn 1 (by omega) (by omega)
      have kk : S 37 (24 * p) = 2 := k0'
      rw [if_neg z0, if_neg z1, if_pos kk, if_neg z0, if_neg z1, if_pos kk]
      obtain ⟨g', hg⟩ := inv_appended (by omega) hL km k2 kk hKL (fun t' ht' hb' => by
        have e : t' = t := o_inj (ht'.symm.trans b1) (by omega) (by omega)
        rw [e]; exact htl)
      exact ⟨⟨g', pa, pv, hg⟩, rfl, hrk, hyk⟩
    · have z0 : ¬ S 37 (24 * p) = 0 := kn 0 (by omega) (by omega)
      have z1 : ¬ S 37 (24 * p) = 1 := kn 1 (by omega) (by omega)
      have z2 : ¬ S 37 (24 * p) = 2 := kn 2 (by omega) (by omega)
      have kk : S 37 (24 * p) = 3 := k0'
      rw [if_neg z0, if_neg z1, if_neg z2, if_pos kk, if_neg z0, if_neg z1, if_neg z2, if_pos kk]
      exact ⟨⟨g, pa, pv, inv_acked (by omega) hL km k2 kk hKL⟩, acked_same (by omega) hL km k2 kk hKL, hrk, hyk⟩
  · have c3' : ¬ S 37 (24 * p) ≤ 3 := by rw [hw3]; exact c3
    have eC' := eC (delS (stepS S) p, leaveF (stepS S) F p) (if_neg c3')
    rw [if_neg c3', eC', eK]
    have z0 : ¬ S 37 (24 * p) = 0 := kn 0 (by omega) (by omega)
    have z1 : ¬ S 37 (24 * p) = 1 := kn 1 (by omega) (by omega)
    have z2 : ¬ S 37 (24 * p) = 2 := kn 2 (by omega) (by omega)
    have z3 : ¬ S 37 (24 * p) = 3 := kn 3 (by omega) (by omega)
    have hrk : HRK (delS (stepS S) p) (leaveF (stepS S) F p) (fun j => S 37 (24 * p + j)) (F 38 p) := ⟨m, f, kd, k2, k1, k0, by omega, by omega, k7, fun z => absurd z c3, fun z => hrb_of (by omega) hD km k2 hKD k0 z k7⟩
    have hyk := hyk_of (by omega) hD.weak km k2 hKD k0 k7
    rw [if_neg z0, if_neg z1, if_neg z2, if_neg z3, if_neg z0, if_neg z1, if_neg z2, if_neg z3]
    have hk : kd = 4 ∨ kd = 5 ∨ kd = 6 ∨ kd = 7 := by omega
    rcases hk with rfl | rfl | rfl | rfl
    · have kk : S 37 (24 * p) = 4 := k0'
      rw [if_pos kk, if_pos kk]
      exact ⟨⟨g, pa, pv, (inv_prepared (by omega) hD km k2 kk hKD).weak⟩, rfl, hrk, hyk⟩
    · have z4 : ¬ S 37 (24 * p) = 4 := kn 4 (by omega) (by omega)
      have kk : S 37 (24 * p) = 5 := k0'
      rw [if_neg z4, if_pos kk, if_neg z4, if_pos kk]
      obtain ⟨pa', pv', hh⟩ := inv_promised (by omega) hD km k2 kk hKD
      exact ⟨⟨g, pa', pv', hh.weak⟩, rfl, hrk, hyk⟩
    · have z4 : ¬ S 37 (24 * p) = 4 := kn 4 (by omega) (by omega)
      have z5 : ¬ S 37 (24 * p) = 5 := kn 5 (by omega) (by omega)
      have kk : S 37 (24 * p) = 6 := k0'
      rw [if_neg z4, if_neg z5, if_pos kk, if_neg z4, if_neg z5, if_pos kk]
      obtain ⟨pa', hh⟩ := inv_accepted (by omega) hD km k2 kk hKD
      exact ⟨⟨g, pa', pv, hh.weak⟩, rfl, hrk, hyk⟩
    · have z4 : ¬ S 37 (24 * p) = 4 := kn 4 (by omega) (by omega)
      have z5 : ¬ S 37 (24 * p) = 5 := kn 5 (by omega) (by omega)
      have z6 : ¬ S 37 (24 * p) = 6 := kn 6 (by omega) (by omega)
      have kk : S 37 (24 * p) = 7 := k0'
      rw [if_neg z4, if_neg z5, if_neg z6, if_neg z4, if_neg z5, if_neg z6]
      refine ⟨⟨g, pa, pv, (inv_counts (by omega) hD km k2 kk hKD).1.weak⟩, ?_, hrk, hyk⟩
      show (countsC (delS (stepS S) p) m (fun j => S 37 (24 * p + j)), leaveF (stepS S) F p) = (countsS (delS (stepS S) p) m (fun j => S 37 (24 * p + j)), leaveF (stepS S) F p)
      rw [counts_same (by omega) hD km k2 kk hKD]
end HEARD
