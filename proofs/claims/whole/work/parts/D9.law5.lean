/-! ===== the law: toggle, cut ===== -/
section LAWD9
variable {h h' : HP} {Q : Out → HP → Prop} {S : SI} {F : SF} {e : EX} {M : SI} {G : SF} {C Z L Z0 i n na st : Nat} {xs : Nat → Int32} {g : YG} {pa : Nat → ZA} {pv : Nat → ZV} {e1 : Int32} {e3 : RW × UInt32} {u6 u7 : Option Value}
theorem ite01 {p : Prop} [Decidable p] : (if p then (0 : Int32) else 1) = 0 ∨ (if p then (0 : Int32) else 1) = 1 := by
  split
  · exact Or.inl rfl
  · exact Or.inr rfl
theorem b2i01 {b : Bool} : b2i b = 0 ∨ b2i b = 1 := by
  cases b
  · exact Or.inl rfl
  · exact Or.inr rfl
theorem INV.a50 {v : Int32} (h : INV st n na g pa pv M F) : INV st n na g pa pv (u2 M 50 0 v) F := h.cg (fun s k q => by rw [u2_ne (by omega)])
theorem INV.noop (h : INV st n na g pa pv S F) : endsS S = S := ends_noop h.2.2.2.2.2.2.2.1 h.1.2.2.1
theorem INV.endh (h : INV st n na g pa pv S F) : ENDH S n na := by
  have hn := h.1.2.1
  refine ⟨h.1.1, by omega, h.1.2.2.1, h.2.2.2.2.2.2.2.1.1.1, h.2.2.2.2.2.2.2.1.1.2.1, fun i hi => ?_⟩
  obtain ⟨l, b1, b2, c, b3, b4⟩ := (h.2.1 i (by omega)).1
  exact ⟨c, b3, by omega⟩
theorem hi_toggle {P : PT} {m s k : Nat} (hs : 48 ≤ s) : (toggleP P m).1 s k = P.1 s k := by
  unfold toggleP
  split
  · show crashS P.1 m s k = _
    unfold crashS dropS followS
    rw [if_neg (by omega), u2_ne (by omega), u2_ne (by omega), u2_ne (by omega), u2_ne (by omega)]
  · show riseS P.1 m s k = _
    unfold riseS
    rw [u2_ne (by omega), u2_ne (by omega)]
theorem op_toggle (hL : LI L xs Z0 i h) (hi : i < 512) (hin : 5 * i + 5 ≤ L) (hLL : L ≤ 2560) (go : GO L xs Z0 60 (i + 1) Q) {x : Int32} (hx0 : xs (5 * i + 1) = x) : WP 59 mL_toggle 0 [some (.ref 2), some (.int x), some (.ref 253), none] [] h (KK 59 mL_law mL_toggle 232 (lwL i u6 u7) [] Q) := by
  obtain ⟨e1, e3, M, G, C, Z, n, na, g, pa, pv, hr, hM, hM2, hI, hC, hZ⟩ := hL
  have hn := hI.1.1
  have hn35 := hI.1.2.1
  have hn5 : n ≤ 5 := by omega
  have h05 : ∀ m, m < n → M 5 m = 0 ∨ M 5 m = 1 := fun m hm => (hI.2.1 m (by omega)).2.2.1
  have hfl := hI.2.2.2.2.2.2.2.2.2
  have hnn : ∀ m, m < n → nn32 (FP.fadd (G 7 m) (G 2 0)) = true := fun m hm => (PF_add (hfl.2.2.2.1 m (by omega)).1 (Nat.le_of_lt hfl.2.1)).nn
  obtain ⟨v, hv⟩ := WP_pick (d := 58) (y := mX11_toggle) (pc := 0) (lo := [some (.ref 2), some (.int x), none]) (stk := []) (h := h) oI 0 oI_inj (P := fun v o h' => (∃ m, x = Int32.ofNat m ∧ m < n ∧ o = oI (if sAt M v 5 m = 1 then 0 else 1) ∧ ∃ e1' e3', RC ((toggleP (stepS (sAt M v), G) m).1) ((toggleP (stepS (sAt M v), G) m).2) (e1', 0, e3') (M, G, C, Z, L, xs) h') ∨ ((¬ (0 ≤ x.toInt ∧ x.toInt < n)) ∧ o = .inr 3 ∧ RC (sAt M v) G (e1, 0, e3) (M, G, C + 1, Z + 6, L, xs) h')) (fun v => c_toggle (rc_at hr) hn hn5 h05 hnn (fun q h' r => Or.inr ⟨q, rfl, r⟩) (fun p q1 q2 h' r => Or.inl ⟨p, q1, q2, rfl, e1, e3, r⟩))
  refine bL_toggle_0 ⟨by decide, st_K_2 (rcS hr), hv.mono ?_⟩
  rintro o h' ⟨(⟨p, q1, q2, rfl, e1', e3', r⟩ | ⟨q, rfl, r⟩), hx'⟩
  · have _ := hI
    have ev := hx' _ rfl
    unfold oI
    rw [KK_ret]
    rw [ev]
    suffices go2 : WP (59 + 1) mL_law 235 (lwL i u6 u7) [.int (0 : Int32)] (sAL h' 253 0 (Int32.toInt64 v)) Q by
      have v01 : v = 0 ∨ v = 1 := by rw [← ev]; exact ite01
      refine bL_toggle_7 ⟨fun w => ⟨qK_c253 r hM hM2, inA_1 (qL_c253 r hM hM2), ?_⟩, fun w => ⟨qK_c253 r hM hM2, inA_1 (qL_c253 r hM hM2), ?_⟩⟩
      · rw [show (0 : Int32).toNatClampNeg = 0 from rfl, KK_ret, show (0 : Int64) = Int32.toInt64 v from by rw [w]; rfl]
        exact go2
      · rw [show (0 : Int32).toNatClampNeg = 0 from rfl, KK_ret, show (1 : Int64) = Int32.toInt64 v from by rw [v01.resolve_left w]; rfl]
        exact go2
    have r1 := rc_outL r v
    refine bL_law_235 ⟨(rc_scr r1).1, ix_in (k := 1) r1 hLL (by omega), by decide, q0 r1 hM, ?_⟩
    have ea0 := (ix_at (i := i) (k := 1) r1 hLL (by omega)).trans hx0
    rw [show Int32.ofNat (5 * i) + (1 : Int32) = Int32.ofNat (5 * i) + Int32.ofNat 1 from rfl, ea0]
    refine x_toggle r1 hM hn hn35 h05 hnn (fun m hm => (inv_toggle (by omega) hI.at hm).endh) (fun w => absurd ⟨by rw [q1, o_i _ (by omega)]; omega, by rw [q1, o_i _ (by omega)]; omega⟩ w) (fun p' q1' q2' h2 r2 => ?_)
    have ep : p' = p := o_inj (q1'.symm.trans q1) (by omega) (by omega)
    subst ep
    have iv : INV (i + 1) n na g pa pv (toggleP (stepS (u2 (u2 M 1001 0 v) 50 0 0), G) p').1 (toggleP (stepS (u2 (u2 M 1001 0 v) 50 0 0), G) p').2 := inv_toggle (by omega) hI.at q2
    rw [iv.noop] at r2
    have m1 : ((toggleP (stepS (u2 (u2 M 1001 0 v) 50 0 0), G) p').1) 1000 0 = 0 := (hi_toggle (by decide)).trans hM
    have m2 : ((toggleP (stepS (u2 (u2 M 1001 0 v) 50 0 0), G) p').1) 1002 0 = 0 := (hi_toggle (by decide)).trans hM2
    have m3 : ((toggleP (stepS (u2 (u2 M 1001 0 v) 50 0 0), G) p').1) 1001 0 = v := (hi_toggle (by decide)).trans rfl
    have m5 : ((toggleP (stepS (u2 (u2 M 1001 0 v) 50 0 0), G) p').1) 50 0 = 0 := (hi_toggle (by decide)).trans rfl
    rw [KK_ret]
    refine bL_law_247 ⟨by decide, q0 r2 m1, x_thrown r2 m1 ?_⟩
    rw [KK_ret, m5]
    have ev2 : (if (u2 M 1001 0 v) 5 p' = 1 then (0 : Int32) else 1) = v := ev
    rw [ev2]
    have eo := qAL_c253 r2 m1 m2
    rw [m3] at eo
    have go3 : WP 60 mL_law 28 [some (.ref 1), some (.ref 2), some (.ref 210), some (.ref 253), some (.ref 254), some (.int (Int32.ofNat (5 * i) + (5 : Int32))), some (.int 0), some (.int v)] [] h2 Q := go_on go r2 (fun _ _ _ _ => rfl) m1 m2 (iv) (by omega) (by omega)
    have v01 : v = 0 ∨ v = 1 := by rw [← ev]; exact ite01
    refine bL_law_253 ⟨fun _ => ⟨fun w => absurd rfl w, fun _ => ⟨qK_c253 r2 m1 m2, inA_1 (qL_c253 r2 m1 m2), fun w => ⟨fun _ => go3, fun w2 => absurd ?_ w2⟩, fun w => ⟨fun _ => go3, fun w2 => absurd ?_ w2⟩⟩⟩, fun w => absurd rfl w⟩
    · rw [show ((0 : Int32)).toNatClampNeg = 0 from rfl, eo, w]
      exact lg_eq _
    · rw [show ((0 : Int32)).toNatClampNeg = 0 from rfl, eo, v01.resolve_left w]
      exact lg_eq _
  · refine KK_hdl rfl rfl rfl (bL_toggle_20 ?_)
    rw [KK_ret]
    refine bL_law_235 ⟨(rc_scr r).1, ix_in (k := 1) r hLL (by omega), by decide, q0 r hM, ?_⟩
    have ea0 := (ix_at (i := i) (k := 1) r hLL (by omega)).trans hx0
    rw [show Int32.ofNat (5 * i) + (1 : Int32) = Int32.ofNat (5 * i) + Int32.ofNat 1 from rfl, ea0]
    refine x_toggle r hM hn hn35 h05 hnn (fun m hm => (inv_toggle (by omega) hI.a50 hm).endh) (fun _ h2 r2 => ?_) (fun p q1 q2 => absurd ⟨by rw [q1, o_i _ (by omega)]; omega, by rw [q1, o_i _ (by omega)]; omega⟩ q)
    rw [KK_ret]
    refine bL_law_247 ⟨by decide, q0 r2 hM, x_thrown r2 hM ?_⟩
    rw [KK_ret]
    refine bL_law_253 ⟨fun _ => ⟨fun _ => ?_, fun w => absurd (by decide) w⟩, fun w => absurd rfl w⟩
    exact go_on go r2 (fun s k h1 h2 => by unfold sAt; rw [u2_ne (by omega), u2_ne (by omega), u2_ne (by omega)]) hM hM2 (hI.cg (fun s k q => by rw [u2_ne (by omega)])).up (by omega) (by omega)
theorem op_cut (hL : LI L xs Z0 i h) (hi : i < 512) (hin : 5 * i + 5 ≤ L) (hLL : L ≤ 2560) (go : GO L xs Z0 60 (i + 1) Q) {x : Int32} (hx0 : xs (5 * i + 1) = x) {y : Int32} (hx1 : xs (5 * i + 2) = y) : WP 59 mL_cut 0 [some (.ref 2), some (.int x), some (.int y), some (.ref 253), none] [] h (KK 59 mL_law mL_cut 301 (lwL i u6 u7) [] Q) := by
  obtain ⟨e1, e3, M, G, C, Z, n, na, g, pa, pv, hr, hM, hM2, hI, hC, hZ⟩ := hL
  have hn := hI.1.1
  have hn35 := hI.1.2.1
  have hn5 : n ≤ 5 := by omega
  have h6 : ∀ k, k < 25 → M 6 k = 0 ∨ M 6 k = 1 := fun k hk => (hI.2.2.1 k hk).1
  obtain ⟨v, hv⟩ := WP_pick (d := 58) (y := mX11_cut) (pc := 0) (lo := [some (.ref 2), some (.int x), some (.int y)]) (stk := []) (h := h) oI 0 oI_inj (P := fun v o h' => (∃ a b, x = Int32.ofNat a ∧ a < n ∧ y = Int32.ofNat b ∧ b < n ∧ a ≠ b ∧ o = oI (b2i (decide (sAt M v 6 (5 * a + b) = 0))) ∧ ∃ e1' e3', RC (cutS (stepS (sAt M v)) a b) (G) (e1', 0, e3') (M, G, C, Z, L, xs) h') ∨ ((¬ ((0 ≤ x.toInt ∧ x.toInt < n) ∧ (0 ≤ y.toInt ∧ y.toInt < n))) ∧ o = .inr 3 ∧ RC (sAt M v) G (e1, 0, e3) (M, G, C + 1, Z + 6, L, xs) h') ∨ ((((0 ≤ x.toInt ∧ x.toInt < n) ∧ (0 ≤ y.toInt ∧ y.toInt < n)) ∧ x = y) ∧ o = .inr 1 ∧ RC (sAt M v) G (e1, 0, e3) (M, G, C + 1, Z + 6, L, xs) h')) (fun v => c_cut (rc_at hr) hn hn5 h6 (fun q h' r => Or.inr (Or.inl ⟨q, rfl, r⟩)) (fun q q2 h' r => Or.inr (Or.inr ⟨⟨q, q2⟩, rfl, r⟩)) (fun p j q1 q2 q3 q4 q5 h' r => Or.inl ⟨p, j, q1, q2, q3, q4, q5, rfl, e1, e3, r⟩))
  refine bL_cut_0 ⟨by decide, st_K_2 (rcS hr), hv.mono ?_⟩
  rintro o h' ⟨(⟨p, j, q1, q2, q3, q4, q5, rfl, e1', e3', r⟩ | ⟨q, rfl, r⟩ | ⟨⟨q, q5⟩, rfl, r⟩), hx'⟩
  · have _ := hI
    have ev := hx' _ rfl
    unfold oI
    rw [KK_ret]
    rw [ev]
    suffices go2 : WP (59 + 1) mL_law 304 (lwL i u6 u7) [.int (0 : Int32)] (sAL h' 253 0 (Int32.toInt64 v)) Q by
      have v01 : v = 0 ∨ v = 1 := by rw [← ev]; exact b2i01
      refine bL_cut_8 ⟨fun w => ⟨qK_c253 r hM hM2, inA_1 (qL_c253 r hM hM2), ?_⟩, fun w => ⟨qK_c253 r hM hM2, inA_1 (qL_c253 r hM hM2), ?_⟩⟩
      · rw [show (0 : Int32).toNatClampNeg = 0 from rfl, KK_ret, show (0 : Int64) = Int32.toInt64 v from by rw [w]; rfl]
        exact go2
      · rw [show (0 : Int32).toNatClampNeg = 0 from rfl, KK_ret, show (1 : Int64) = Int32.toInt64 v from by rw [v01.resolve_left w]; rfl]
        exact go2
    have r1 := rc_outL r v
    refine bL_law_304 ⟨(rc_scr r1).1, ix_in (k := 1) r1 hLL (by omega), ix_in (k := 2) r1 hLL (by omega), by decide, q0 r1 hM, ?_⟩
    have ea0 := (ix_at (i := i) (k := 1) r1 hLL (by omega)).trans hx0
    have ea1 := (ix_at (i := i) (k := 2) r1 hLL (by omega)).trans hx1
    rw [show Int32.ofNat (5 * i) + (1 : Int32) = Int32.ofNat (5 * i) + Int32.ofNat 1 from rfl, ea0, show Int32.ofNat (5 * i) + (2 : Int32) = Int32.ofNat (5 * i) + Int32.ofNat 2 from rfl, ea1]
    refine x_cut r1 hM hn hn35 h6 (fun w => absurd ⟨⟨by rw [q1, o_i _ (by omega)]; omega, by rw [q1, o_i _ (by omega)]; omega⟩, ⟨by rw [q3, o_i _ (by omega)]; omega, by rw [q3, o_i _ (by omega)]; omega⟩⟩ w) (fun _ w => absurd (o_inj (q1.symm.trans (w.trans q3)) (by omega) (by omega)) q5) (fun p' j' q1' q2' q3' q4' q5' h2 r2 => ?_)
    have ep : p' = p := o_inj (q1'.symm.trans q1) (by omega) (by omega)
    subst ep
    have ej : j' = j := o_inj (q3'.symm.trans q3) (by omega) (by omega)
    subst ej
    have m1 : (cutS (stepS (u2 (u2 M 1001 0 v) 50 0 0)) p' j') 1000 0 = 0 := hM
    have m2 : (cutS (stepS (u2 (u2 M 1001 0 v) 50 0 0)) p' j') 1002 0 = 0 := hM2
    have m3 : (cutS (stepS (u2 (u2 M 1001 0 v) 50 0 0)) p' j') 1001 0 = v := rfl
    have m5 : (cutS (stepS (u2 (u2 M 1001 0 v) 50 0 0)) p' j') 50 0 = 0 := rfl
    rw [KK_ret]
    refine bL_law_322 ⟨by decide, q0 r2 m1, x_thrown r2 m1 ?_⟩
    rw [KK_ret, m5]
    have ev2 : b2i (decide ((u2 M 1001 0 v) 6 (5 * p' + j') = 0)) = v := ev
    rw [ev2]
    have eo := qAL_c253 r2 m1 m2
    rw [m3] at eo
    have go3 : WP 60 mL_law 28 [some (.ref 1), some (.ref 2), some (.ref 210), some (.ref 253), some (.ref 254), some (.int (Int32.ofNat (5 * i) + (5 : Int32))), some (.int 0), some (.int v)] [] h2 Q := go_on go r2 (fun _ _ _ _ => rfl) m1 m2 (inv_cut (by omega) hI.at) (by omega) (by omega)
    have v01 : v = 0 ∨ v = 1 := by rw [← ev]; exact b2i01
    refine bL_law_328 ⟨fun _ => ⟨fun w => absurd rfl w, fun _ => ⟨qK_c253 r2 m1 m2, inA_1 (qL_c253 r2 m1 m2), fun w => ⟨fun _ => go3, fun w2 => absurd ?_ w2⟩, fun w => ⟨fun _ => go3, fun w2 => absurd ?_ w2⟩⟩⟩, fun w => absurd rfl w⟩
    · rw [show ((0 : Int32)).toNatClampNeg = 0 from rfl, eo, w]
      exact lg_eq _
    · rw [show ((0 : Int32)).toNatClampNeg = 0 from rfl, eo, v01.resolve_left w]
      exact lg_eq _
  · refine KK_hdl rfl rfl rfl (bL_cut_22 ?_)
    rw [KK_ret]
    refine bL_law_304 ⟨(rc_scr r).1, ix_in (k := 1) r hLL (by omega), ix_in (k := 2) r hLL (by omega), by decide, q0 r hM, ?_⟩
    have ea0 := (ix_at (i := i) (k := 1) r hLL (by omega)).trans hx0
    have ea1 := (ix_at (i := i) (k := 2) r hLL (by omega)).trans hx1
    rw [show Int32.ofNat (5 * i) + (1 : Int32) = Int32.ofNat (5 * i) + Int32.ofNat 1 from rfl, ea0, show Int32.ofNat (5 * i) + (2 : Int32) = Int32.ofNat (5 * i) + Int32.ofNat 2 from rfl, ea1]
    refine x_cut r hM hn hn35 h6 (fun _ h2 r2 => ?_) (fun w => absurd w q) (fun p j q1 q2 q3 q4 => absurd ⟨⟨by rw [q1, o_i _ (by omega)]; omega, by rw [q1, o_i _ (by omega)]; omega⟩, ⟨by rw [q3, o_i _ (by omega)]; omega, by rw [q3, o_i _ (by omega)]; omega⟩⟩ q)
    rw [KK_ret]
    refine bL_law_322 ⟨by decide, q0 r2 hM, x_thrown r2 hM ?_⟩
    rw [KK_ret]
    refine bL_law_328 ⟨fun _ => ⟨fun _ => ?_, fun w => absurd (by decide) w⟩, fun w => absurd rfl w⟩
    exact go_on go r2 (fun s k h1 h2 => by unfold sAt; rw [u2_ne (by omega), u2_ne (by omega), u2_ne (by omega)]) hM hM2 (hI.cg (fun s k q => by rw [u2_ne (by omega)])).up (by omega) (by omega)
  · refine KK_hdl rfl rfl rfl (bL_cut_26 ?_)
    rw [KK_ret]
    refine bL_law_304 ⟨(rc_scr r).1, ix_in (k := 1) r hLL (by omega), ix_in (k := 2) r hLL (by omega), by decide, q0 r hM, ?_⟩
    have ea0 := (ix_at (i := i) (k := 1) r hLL (by omega)).trans hx0
    have ea1 := (ix_at (i := i) (k := 2) r hLL (by omega)).trans hx1
    rw [show Int32.ofNat (5 * i) + (1 : Int32) = Int32.ofNat (5 * i) + Int32.ofNat 1 from rfl, ea0, show Int32.ofNat (5 * i) + (2 : Int32) = Int32.ofNat (5 * i) + Int32.ofNat 2 from rfl, ea1]
    refine x_cut r hM hn hn35 h6 (fun w => absurd q w) (fun _ _ h2 r2 => ?_) (fun p j q1 q2 q3 q4 q6 => absurd (o_inj (q1.symm.trans (q5.trans q3)) (by omega) (by omega)) q6)
    rw [KK_ret]
    refine bL_law_322 ⟨by decide, q0 r2 hM, x_thrown r2 hM ?_⟩
    rw [KK_ret]
    refine bL_law_328 ⟨fun _ => ⟨fun _ => ?_, fun w => absurd (by decide) w⟩, fun w => absurd rfl w⟩
    exact go_on go r2 (fun s k h1 h2 => by unfold sAt; rw [u2_ne (by omega), u2_ne (by omega), u2_ne (by omega)]) hM hM2 (hI.cg (fun s k q => by rw [u2_ne (by omega)])).up (by omega) (by omega)
end LAWD9
