/-! ===== the law: deliver ===== -/
section LAWDE
variable {h h' : HP} {Q : Out → HP → Prop} {S : SI} {F : SF} {e : EX} {M : SI} {G : SF} {C Z L Z0 i n na st : Nat} {xs : Nat → Int32} {g : YG} {pa : Nat → ZA} {pv : Nat → ZV} {e1 : Int32} {e3 : RW × UInt32} {u6 u7 : Option Value}
theorem hear_P (hst : st < 1000) (h : INV st n na g pa pv S F) {p q : Nat} (hq : S 39 0 = Int32.ofNat q) (hq60 : q ≤ 60) (hp : p < q) : (hearC (delS (stepS S) p, leaveF (stepS S) F p) (nt (S 37 (24 * p + 2))) (fun j => S 37 (24 * p + j)) (F 38 p)).1 0 0 = Int32.ofNat n ∧ (hearC (delS (stepS S) p, leaveF (stepS S) F p) (nt (S 37 (24 * p + 2))) (fun j => S 37 (24 * p + j)) (F 38 p)).1 47 0 = Int32.ofNat na ∧ (∀ a, a < na → (hearC (delS (stepS S) p, leaveF (stepS S) F p) (nt (S 37 (24 * p + 2))) (fun j => S 37 (24 * p + j)) (F 38 p)).1 41 a = 0 ∨ (hearC (delS (stepS S) p, leaveF (stepS S) F p) (nt (S 37 (24 * p + 2))) (fun j => S 37 (24 * p + j)) (F 38 p)).1 41 a = 1) ∧ ∀ m, m < n → 0 ≤ ((hearC (delS (stepS S) p, leaveF (stepS S) F p) (nt (S 37 (24 * p + 2))) (fun j => S 37 (24 * p + j)) (F 38 p)).1 12 m).toInt ∧ ((hearC (delS (stepS S) p, leaveF (stepS S) F p) (nt (S 37 (24 * p + 2))) (fun j => S 37 (24 * p + j)) (F 38 p)).1 12 m).toInt ≤ 30 := by
  obtain ⟨⟨g', pa', pv', iw⟩, e, _, _⟩ := hear_pack hst h hq hq60 hp
  have hn := h.1.2.1
  rw [e]
  refine ⟨iw.1.1, iw.1.2.2.1, iw.2.2.2.2.2.2.2.1.1.2.1, fun m hm => ?_⟩
  obtain ⟨l, b1, b2, _⟩ := (iw.2.1 m (by omega)).1
  rw [b1, o_i _ (by omega)]
  omega
theorem hear_E (hst : st < 1000) (h : INV st n na g pa pv S F) {p q : Nat} (hq : S 39 0 = Int32.ofNat q) (hq60 : q ≤ 60) (hp : p < q) (hM : S 1000 0 = 0) : ENDH (hearK (lrnP (stepS S, F) p) (nt (S 37 (24 * p + 2))) (fun j => S 37 (24 * p + j)) (F 38 p)).1 n na ∧ (hearK (lrnP (stepS S, F) p) (nt (S 37 (24 * p + 2))) (fun j => S 37 (24 * p + j)) (F 38 p)).1 1000 0 = 0 := by
  obtain ⟨⟨g', pa', pv', iw⟩, _⟩ := hear_pack hst h hq hq60 hp
  exact ⟨iw.endh, (hi_hearK (by decide)).trans ((hi_lrn (by decide)).trans hM)⟩
theorem op_deliver (hL : LI L xs Z0 i h) (hi : i < 512) (hin : 5 * i + 5 ≤ L) (hLL : L ≤ 2560) (go : GO L xs Z0 60 (i + 1) Q) {x : Int32} (hx0 : xs (5 * i + 1) = x) : WP 59 mL_deliver 0 [some (.ref 2), some (.int x), some (.ref 253), none] [] h (KK 59 mL_law mL_deliver 586 (lwL i u6 u7) [] Q) := by
  obtain ⟨e1, e3, M, G, C, Z, n, na, g, pa, pv, hr, hM, hM2, hI, hC, hZ⟩ := hL
  have hn := hI.1.1
  have hn35 := hI.1.2.1
  have hn5 : n ≤ 5 := by omega
  obtain ⟨qn, hq, hq60, _⟩ := id hI.2.2.2.2.2.2.2.2.1
  have ha := hI.1.2.2.1
  have ha14 := hI.2.2.2.2.2.2.2.1.1.1
  have hz41 := hI.2.2.2.2.2.2.2.1.1.2.1
  have hcz : ∀ k, k < 25 → M 6 k = 0 ∨ M 6 k = 1 := fun k hk => (hI.2.2.1 k hk).1
  obtain ⟨v, hv⟩ := WP_pick (d := 58) (y := mX11_deliver) (pc := 0) (lo := [some (.ref 2), some (.int x), none, none]) (stk := []) (h := h) oI 0 oI_inj (P := fun v o h' => (∃ p, x = Int32.ofNat p ∧ p < qn ∧ dlvB M p ∧ o = oI ((delivP (stepS (sAt M v), G) p).1 40 0) ∧ ∃ e1' e3', RC ((delivP (stepS (sAt M v), G) p).1) ((delivP (stepS (sAt M v), G) p).2) (e1', 0, e3') (M, G, C, Z, L, xs) h') ∨ ((¬ (0 ≤ x.toInt ∧ x.toInt < qn)) ∧ o = .inr 3 ∧ RC (sAt M v) G (e1, 0, e3) (M, G, C + 1, Z + 6, L, xs) h') ∨ ((∃ p, x = Int32.ofNat p ∧ p < qn ∧ ¬ dlvB M p) ∧ o = .inr 2 ∧ RC (sAt M v) G (e1, 0, e3) (M, G, C + 1, Z + 6, L, xs) h')) (fun v => c_deliver (rc_at hr) hn hn5 hq hq60 ha ha14 hz41 hcz (fun p hp => (hear_pack (by omega) (hI.at (v := v)) hq hq60 hp).2.2.1) (fun p hp => hear_P (by omega) (hI.at (v := v)) hq hq60 hp) (fun q h' r => Or.inr (Or.inl ⟨q, rfl, r⟩)) (fun p q1 q2 q3 h' r => Or.inr (Or.inr ⟨⟨p, q1, q2, q3⟩, rfl, r⟩)) (fun p q1 q2 q3 h' e3' r => Or.inl ⟨p, q1, q2, q3, by rw [(deliv_eq (by omega) (hI.at (v := v)) hq hq60 q2).1]; rfl, 0, e3', by rw [← (deliv_eq (by omega) (hI.at (v := v)) hq hq60 q2).1]; exact r⟩))
  refine bL_deliver_0 ⟨by decide, st_K_2 (rcS hr), hv.mono ?_⟩
  rintro o h' ⟨(⟨p, q1, q2, q3, rfl, e1', e3', r⟩ | ⟨q, rfl, r⟩ | ⟨⟨p, q1, q2, q3⟩, rfl, r⟩), hx'⟩
  · have _ := hI
    have ev := hx' _ rfl
    unfold oI
    rw [KK_ret]
    refine bL_deliver_7 ⟨qK_c253 r hM hM2, inA_1 (qL_c253 r hM hM2), ?_⟩
    rw [ev, show (0 : Int32).toNatClampNeg = 0 from rfl, KK_ret]
    have r1 := rc_outL r v
    refine bL_law_589 ⟨(rc_scr r1).1, ix_in (k := 1) r1 hLL (by omega), by decide, q0 r1 hM, ?_⟩
    have ea0 := (ix_at (i := i) (k := 1) r1 hLL (by omega)).trans hx0
    rw [show Int32.ofNat (5 * i) + (1 : Int32) = Int32.ofNat (5 * i) + Int32.ofNat 1 from rfl, ea0]
    refine x_deliver r1 hM hn hn35 (inv_lens hI) hq hq60 hcz (fun p hp => (hear_pack (by omega) (hI.at (v := v)) hq hq60 hp).2.2.2) (fun p hp _ => hear_E (by omega) (hI.at (v := v)) hq hq60 hp hM) (fun w => absurd ⟨by rw [q1, o_i _ (by omega)]; omega, by rw [q1, o_i _ (by omega)]; omega⟩ w) (fun m' a1 a2 a3 => absurd (by
        have e9 := o_inj (a1.symm.trans q1) (by omega) (by omega)
        subst e9
        exact q3) a3) (fun p' q1' q2' q3' h2 r2 => ?_)
    have ep : p' = p := o_inj (q1'.symm.trans q1) (by omega) (by omega)
    subst ep
    obtain ⟨g', pa', pv', iv⟩ := (deliv_eq (by omega) (hI.at (v := v)) hq hq60 q2).2
    have m1 : ((delivP (stepS (u2 (u2 M 1001 0 v) 50 0 0), G) p').1) 1000 0 = 0 := (hi_deliv (by decide)).trans hM
    have m2 : ((delivP (stepS (u2 (u2 M 1001 0 v) 50 0 0), G) p').1) 1002 0 = 0 := (hi_deliv (by decide)).trans hM2
    have m3 : ((delivP (stepS (u2 (u2 M 1001 0 v) 50 0 0), G) p').1) 1001 0 = v := (hi_deliv (by decide)).trans rfl
    have m5 : ((delivP (stepS (u2 (u2 M 1001 0 v) 50 0 0), G) p').1) 50 0 = 0 := (hi_deliv (by decide)).trans rfl
    rw [KK_ret]
    refine bL_law_601 ⟨by decide, q0 r2 m1, x_thrown r2 m1 ?_⟩
    rw [KK_ret, m5]
    refine bL_law_607 ⟨fun _ => ⟨fun w => absurd rfl w, fun _ => ⟨qK_c253 r2 m1 m2, inA_1 (qL_c253 r2 m1 m2), fun _ => ?_, fun w => absurd ?_ w⟩⟩, fun w => absurd rfl w⟩
    · exact go_on go r2 (fun _ _ _ _ => rfl) m1 m2 (iv) (by omega) (by omega)
    · have eo := qAL_c253 r2 m1 m2
      rw [show ((0 : Int32)).toNatClampNeg = 0 from rfl, eo, m3]
      have ev2 : (delivP (stepS (u2 (u2 M 1001 0 v) 50 0 0), G) p').1 40 0 = v := ev
      rw [ev2]
      exact lg_eq _
  · refine KK_hdl rfl rfl rfl (bL_deliver_13 ?_)
    rw [KK_ret]
    refine bL_law_589 ⟨(rc_scr r).1, ix_in (k := 1) r hLL (by omega), by decide, q0 r hM, ?_⟩
    have ea0 := (ix_at (i := i) (k := 1) r hLL (by omega)).trans hx0
    rw [show Int32.ofNat (5 * i) + (1 : Int32) = Int32.ofNat (5 * i) + Int32.ofNat 1 from rfl, ea0]
    refine x_deliver r hM hn hn35 (inv_lens hI) hq hq60 hcz (fun p hp => (hear_pack (by omega) hI.a50 hq hq60 hp).2.2.2) (fun p hp _ => hear_E (by omega) hI.a50 hq hq60 hp hM) (fun _ h2 r2 => ?_) (fun p q1 q2 => absurd ⟨by rw [q1, o_i _ (by omega)]; omega, by rw [q1, o_i _ (by omega)]; omega⟩ q) (fun p q1 q2 => absurd ⟨by rw [q1, o_i _ (by omega)]; omega, by rw [q1, o_i _ (by omega)]; omega⟩ q)
    rw [KK_ret]
    refine bL_law_601 ⟨by decide, q0 r2 hM, x_thrown r2 hM ?_⟩
    rw [KK_ret]
    refine bL_law_607 ⟨fun _ => ⟨fun _ => ?_, fun w => absurd (by decide) w⟩, fun w => absurd rfl w⟩
    exact go_on go r2 (fun s k h1 h2 => by unfold sAt; rw [u2_ne (by omega), u2_ne (by omega), u2_ne (by omega)]) hM hM2 (hI.cg (fun s k q => by rw [u2_ne (by omega)])).up (by omega) (by omega)
  · refine KK_hdl rfl rfl rfl (bL_deliver_16 ?_)
    rw [KK_ret]
    refine bL_law_589 ⟨(rc_scr r).1, ix_in (k := 1) r hLL (by omega), by decide, q0 r hM, ?_⟩
    have ea0 := (ix_at (i := i) (k := 1) r hLL (by omega)).trans hx0
    rw [show Int32.ofNat (5 * i) + (1 : Int32) = Int32.ofNat (5 * i) + Int32.ofNat 1 from rfl, ea0]
    refine x_deliver r hM hn hn35 (inv_lens hI) hq hq60 hcz (fun p hp => (hear_pack (by omega) hI.a50 hq hq60 hp).2.2.2) (fun p hp _ => hear_E (by omega) hI.a50 hq hq60 hp hM) (fun w => absurd ⟨by rw [q1, o_i _ (by omega)]; omega, by rw [q1, o_i _ (by omega)]; omega⟩ w) (fun _ _ _ _ h2 r2 => ?_) (fun m' a1 a2 a3 => absurd a3 (by
        have e9 := o_inj (a1.symm.trans q1) (by omega) (by omega)
        subst e9
        exact q3))
    rw [KK_ret]
    refine bL_law_601 ⟨by decide, q0 r2 hM, x_thrown r2 hM ?_⟩
    rw [KK_ret]
    refine bL_law_607 ⟨fun _ => ⟨fun _ => ?_, fun w => absurd (by decide) w⟩, fun w => absurd rfl w⟩
    exact go_on go r2 (fun s k h1 h2 => by unfold sAt; rw [u2_ne (by omega), u2_ne (by omega), u2_ne (by omega)]) hM hM2 (hI.cg (fun s k q => by rw [u2_ne (by omega)])).up (by omega) (by omega)
end LAWDE
