/-! ===== the law: lose, twice ===== -/
section LAWD7
variable {h h' : HP} {Q : Out → HP → Prop} {S : SI} {F : SF} {e : EX} {M : SI} {G : SF} {C Z L Z0 i n na st : Nat} {xs : Nat → Int32} {g : YG} {pa : Nat → ZA} {pv : Nat → ZV} {e1 : Int32} {e3 : RW × UInt32} {u6 u7 : Option Value}
theorem op_lose (hL : LI L xs Z0 i h) (hi : i < 512) (hin : 5 * i + 5 ≤ L) (hLL : L ≤ 2560) (go : GO L xs Z0 60 (i + 1) Q) {x : Int32} (hx0 : xs (5 * i + 1) = x) : WP 59 mL_lose 0 [some (.ref 2), some (.int x), some (.ref 253), none] [] h (KK 59 mL_law mL_lose 642 (lwL i u6 u7) [] Q) := by
  obtain ⟨e1, e3, M, G, C, Z, n, na, g, pa, pv, hr, hM, hM2, hI, hC, hZ⟩ := hL
  obtain ⟨qn, hq, hq60, _⟩ := id hI.2.2.2.2.2.2.2.2.1
  obtain ⟨v, hv⟩ := WP_pick (d := 58) (y := mX11_lose) (pc := 0) (lo := [some (.ref 2), some (.int x)]) (stk := []) (h := h) oI 0 oI_inj (P := fun v o h' => (∃ p, x = Int32.ofNat p ∧ p < qn ∧ o = oI (Int32.ofNat (qn - 1)) ∧ ∃ e1' e3', RC (leaveS (stepS (sAt M v)) p) (leaveF (stepS (sAt M v)) G p) (e1', 0, e3') (M, G, C, Z, L, xs) h') ∨ ((¬ (0 ≤ x.toInt ∧ x.toInt < qn)) ∧ o = .inr 3 ∧ RC (sAt M v) G (e1, 0, e3) (M, G, C + 1, Z + 6, L, xs) h')) (fun v => c_lose (rc_at hr) hq hq60 (fun q h' r => Or.inr ⟨q, rfl, r⟩) (fun p q1 q2 h' e3' r => Or.inl ⟨p, q1, q2, rfl, e1, e3', r⟩))
  refine bL_lose_0 ⟨by decide, st_K_2 (rcS hr), hv.mono ?_⟩
  rintro o h' ⟨(⟨p, q1, q2, rfl, e1', e3', r⟩ | ⟨q, rfl, r⟩), hx'⟩
  · have _ := hI
    have ev := hx' _ rfl
    unfold oI
    rw [KK_ret]
    refine bL_lose_7 ⟨qK_c253 r hM hM2, inA_1 (qL_c253 r hM hM2), ?_⟩
    rw [ev, show (0 : Int32).toNatClampNeg = 0 from rfl, KK_ret]
    have r1 := rc_outL r v
    refine bL_law_645 ⟨(rc_scr r1).1, ix_in (k := 1) r1 hLL (by omega), by decide, q0 r1 hM, ?_⟩
    have ea0 := (ix_at (i := i) (k := 1) r1 hLL (by omega)).trans hx0
    rw [show Int32.ofNat (5 * i) + (1 : Int32) = Int32.ofNat (5 * i) + Int32.ofNat 1 from rfl, ea0]
    refine x_lose r1 hM hq hq60 (fun w => absurd ⟨by rw [q1, o_i _ (by omega)]; omega, by rw [q1, o_i _ (by omega)]; omega⟩ w) (fun p' q1' q2' h2 r2 => ?_)
    have ep : p' = p := o_inj (q1'.symm.trans q1) (by omega) (by omega)
    subst ep
    have m1 : (leaveS (stepS (u2 (u2 M 1001 0 v) 50 0 0)) p') 1000 0 = 0 := hM
    have m2 : (leaveS (stepS (u2 (u2 M 1001 0 v) 50 0 0)) p') 1002 0 = 0 := hM2
    have m3 : (leaveS (stepS (u2 (u2 M 1001 0 v) 50 0 0)) p') 1001 0 = v := rfl
    have m5 : (leaveS (stepS (u2 (u2 M 1001 0 v) 50 0 0)) p') 50 0 = 0 := rfl
    rw [KK_ret]
    refine bL_law_657 ⟨by decide, q0 r2 m1, x_thrown r2 m1 ?_⟩
    rw [KK_ret, m5]
    refine bL_law_663 ⟨fun _ => ⟨fun w => absurd rfl w, fun _ => ⟨qK_c253 r2 m1 m2, inA_1 (qL_c253 r2 m1 m2), fun _ => ?_, fun w => absurd ?_ w⟩⟩, fun w => absurd rfl w⟩
    · exact go_on go r2 (fun _ _ _ _ => rfl) m1 m2 (inv_lose (by omega) hI.at hq hq60 q2) (by omega) (by omega)
    · have eo := qAL_c253 r2 m1 m2
      rw [show ((0 : Int32)).toNatClampNeg = 0 from rfl, eo, m3]
      have ev2 : Int32.ofNat (qn - 1) = v := ev
      rw [ev2]
      exact lg_eq _
  · refine KK_hdl rfl rfl rfl (bL_lose_13 ?_)
    rw [KK_ret]
    refine bL_law_645 ⟨(rc_scr r).1, ix_in (k := 1) r hLL (by omega), by decide, q0 r hM, ?_⟩
    have ea0 := (ix_at (i := i) (k := 1) r hLL (by omega)).trans hx0
    rw [show Int32.ofNat (5 * i) + (1 : Int32) = Int32.ofNat (5 * i) + Int32.ofNat 1 from rfl, ea0]
    refine x_lose r hM hq hq60 (fun _ h2 r2 => ?_) (fun p q1 q2 => absurd ⟨by rw [q1, o_i _ (by omega)]; omega, by rw [q1, o_i _ (by omega)]; omega⟩ q)
    rw [KK_ret]
    refine bL_law_657 ⟨by decide, q0 r2 hM, x_thrown r2 hM ?_⟩
    rw [KK_ret]
    refine bL_law_663 ⟨fun _ => ⟨fun _ => ?_, fun w => absurd (by decide) w⟩, fun w => absurd rfl w⟩
    exact go_on go r2 (fun s k h1 h2 => by unfold sAt; rw [u2_ne (by omega), u2_ne (by omega), u2_ne (by omega)]) hM hM2 (hI.cg (fun s k q => by rw [u2_ne (by omega)])).up (by omega) (by omega)
theorem op_twice (hL : LI L xs Z0 i h) (hi : i < 512) (hin : 5 * i + 5 ≤ L) (hLL : L ≤ 2560) (go : GO L xs Z0 60 (i + 1) Q) {x : Int32} (hx0 : xs (5 * i + 1) = x) : WP 59 mL_twice 0 [some (.ref 2), some (.int x), some (.ref 253), none] [] h (KK 59 mL_law mL_twice 698 (lwL i u6 u7) [] Q) := by
  obtain ⟨e1, e3, M, G, C, Z, n, na, g, pa, pv, hr, hM, hM2, hI, hC, hZ⟩ := hL
  obtain ⟨qn, hq, hq60, _⟩ := id hI.2.2.2.2.2.2.2.2.1
  obtain ⟨v, hv⟩ := WP_pick (d := 58) (y := mX11_twice) (pc := 0) (lo := [some (.ref 2), some (.int x), none]) (stk := []) (h := h) oI 0 oI_inj (P := fun v o h' => (∃ p, x = Int32.ofNat p ∧ p < qn ∧ o = oI (Int32.ofNat (min 60 (qn + 1))) ∧ ∃ e1' e3', RC (twiceS (stepS (sAt M v)) p) (pushF (stepS (sAt M v)) G (G 38 p)) (e1', 0, e3') (M, G, C, Z, L, xs) h') ∨ ((¬ (0 ≤ x.toInt ∧ x.toInt < qn)) ∧ o = .inr 3 ∧ RC (sAt M v) G (e1, 0, e3) (M, G, C + 1, Z + 6, L, xs) h')) (fun v => c_twice (rc_at hr) hq hq60 (fun q h' r => Or.inr ⟨q, rfl, r⟩) (fun p q1 q2 h' e1' r => Or.inl ⟨p, q1, q2, rfl, e1', e3, r⟩))
  refine bL_twice_0 ⟨by decide, st_K_2 (rcS hr), hv.mono ?_⟩
  rintro o h' ⟨(⟨p, q1, q2, rfl, e1', e3', r⟩ | ⟨q, rfl, r⟩), hx'⟩
  · have _ := hI
    have ev := hx' _ rfl
    unfold oI
    rw [KK_ret]
    refine bL_twice_7 ⟨qK_c253 r hM hM2, inA_1 (qL_c253 r hM hM2), ?_⟩
    rw [ev, show (0 : Int32).toNatClampNeg = 0 from rfl, KK_ret]
    have r1 := rc_outL r v
    refine bL_law_701 ⟨(rc_scr r1).1, ix_in (k := 1) r1 hLL (by omega), by decide, q0 r1 hM, ?_⟩
    have ea0 := (ix_at (i := i) (k := 1) r1 hLL (by omega)).trans hx0
    rw [show Int32.ofNat (5 * i) + (1 : Int32) = Int32.ofNat (5 * i) + Int32.ofNat 1 from rfl, ea0]
    refine x_twice r1 hM hq hq60 (fun w => absurd ⟨by rw [q1, o_i _ (by omega)]; omega, by rw [q1, o_i _ (by omega)]; omega⟩ w) (fun p' q1' q2' h2 r2 => ?_)
    have ep : p' = p := o_inj (q1'.symm.trans q1) (by omega) (by omega)
    subst ep
    have m1 : (twiceS (stepS (u2 (u2 M 1001 0 v) 50 0 0)) p') 1000 0 = 0 := hM
    have m2 : (twiceS (stepS (u2 (u2 M 1001 0 v) 50 0 0)) p') 1002 0 = 0 := hM2
    have m3 : (twiceS (stepS (u2 (u2 M 1001 0 v) 50 0 0)) p') 1001 0 = v := rfl
    have m5 : (twiceS (stepS (u2 (u2 M 1001 0 v) 50 0 0)) p') 50 0 = 0 := rfl
    rw [KK_ret]
    refine bL_law_713 ⟨by decide, q0 r2 m1, x_thrown r2 m1 ?_⟩
    rw [KK_ret, m5]
    refine bL_law_719 ⟨fun _ => ⟨fun w => absurd rfl w, fun _ => ⟨qK_c253 r2 m1 m2, inA_1 (qL_c253 r2 m1 m2), fun _ => ?_, fun w => absurd ?_ w⟩⟩, fun w => absurd rfl w⟩
    · exact go_on go r2 (fun _ _ _ _ => rfl) m1 m2 (inv_twice (by omega) hI.at hq hq60 q2) (by omega) (by omega)
    · have eo := qAL_c253 r2 m1 m2
      rw [show ((0 : Int32)).toNatClampNeg = 0 from rfl, eo, m3]
      have ev2 : Int32.ofNat (min 60 (qn + 1)) = v := ev
      rw [ev2]
      exact lg_eq _
  · refine KK_hdl rfl rfl rfl (bL_twice_13 ?_)
    rw [KK_ret]
    refine bL_law_701 ⟨(rc_scr r).1, ix_in (k := 1) r hLL (by omega), by decide, q0 r hM, ?_⟩
    have ea0 := (ix_at (i := i) (k := 1) r hLL (by omega)).trans hx0
    rw [show Int32.ofNat (5 * i) + (1 : Int32) = Int32.ofNat (5 * i) + Int32.ofNat 1 from rfl, ea0]
    refine x_twice r hM hq hq60 (fun _ h2 r2 => ?_) (fun p q1 q2 => absurd ⟨by rw [q1, o_i _ (by omega)]; omega, by rw [q1, o_i _ (by omega)]; omega⟩ q)
    rw [KK_ret]
    refine bL_law_713 ⟨by decide, q0 r2 hM, x_thrown r2 hM ?_⟩
    rw [KK_ret]
    refine bL_law_719 ⟨fun _ => ⟨fun _ => ?_, fun w => absurd (by decide) w⟩, fun w => absurd rfl w⟩
    exact go_on go r2 (fun s k h1 h2 => by unfold sAt; rw [u2_ne (by omega), u2_ne (by omega), u2_ne (by omega)]) hM hM2 (hI.cg (fun s k q => by rw [u2_ne (by omega)])).up (by omega) (by omega)
end LAWD7
