/-! ===== the law: clocks, rates, spans, leases ===== -/
section LAWDF
variable {h h' : HP} {Q : Out → HP → Prop} {S : SI} {F : SF} {e : EX} {M : SI} {G : SF} {C Z L Z0 i n na st : Nat} {xs : Nat → Int32} {g : YG} {pa : Nat → ZA} {pv : Nat → ZV} {e1 : Int32} {e3 : RW × UInt32} {u6 u7 : Option Value}
theorem val_nz {w : UInt32} (h : FP.Core.val32 w ≠ .nan) : FP.Core.val64 (FP.f2d w) ≠ .nan := by
  have hn : ¬ FP.Core.fIsNaN w = true := fun q => h ((FP.Core.fIsNaN_iff w).mp q)
  unfold FP.f2d
  rw [if_neg hn, FP.Core.val64_f2d, Ne, FP.Core.round_nan]
  exact h
theorem b64_t : FP.Core.b64.tails = 4503599627370496 := by decide
theorem b64_e : FP.Core.b64.exps = 2048 := by decide
theorem val_dec64 {x : UInt64} : FP.Core.val64 x = FP.Core.decode FP.Core.b64 x.toNat := rfl
theorem nn_val64 {x : UInt64} (h : FP.Core.val64 x ≠ .nan) : nn64 x = true := by
  have hx := x.toNat_lt
  rw [val_dec64] at h
  unfold FP.Core.decode FP.Core.fieldE FP.Core.fieldT FP.Core.fieldS at h
  rw [b64_t, b64_e] at h
  unfold nn64
  apply decide_eq_true
  rw [UInt64.le_iff_toNat_le, UInt64.toNat_and]
  have e : (0x7fffffffffffffff : UInt64).toNat = 2 ^ 63 - 1 := rfl
  have e2 : (0x7ff0000000000000 : UInt64).toNat = 9218868437227405312 := rfl
  rw [e, e2, Nat.and_two_pow_sub_one_eq_mod]
  generalize x.toNat = n at *
  split at h
  · split at h
    · omega
    · exact absurd rfl h
  · omega
theorem dc_self {w : UInt32} (h : FP.Core.val32 w ≠ .nan) : Op.cmpValue (FP.dcmp (FP.f2d w) (FP.f2d w)) .l = 0 := by
  have e := FP.Core.dcmp_self (val_nz h)
  show Op.cmpValue (FP.Core.dcmp (FP.f2d w) (FP.f2d w)) .l = 0
  rw [e]
  rfl
theorem m1_val : FP.Core.val32 (3212836864 : UInt32) ≠ .nan := fun h => absurd ((FP.Core.fIsNaN_iff 3212836864).mpr h) (by decide +kernel)
theorem rc_atF {v : UInt32} {X : MX} (hr : RC M G e X h) : RC (u2 M 50 0 0) (u2 G 1001 0 v) e X h := by
  obtain ⟨hs, hrow, hm, hl, hle, hc, hn, hh, hg⟩ := hr
  exact ⟨hs, hrow, hm, hl, hle, hc, hn, hh, hg⟩
theorem rc_a50 {X : MX} (hr : RC M G e X h) : RC (u2 M 50 0 0) G e X h := by
  obtain ⟨hs, hrow, hm, hl, hle, hc, hn, hh, hg⟩ := hr
  exact ⟨hs, hrow, hm, hl, hle, hc, hn, hh, hg⟩
theorem rc_F {v : UInt32} {X : MX} (hr : RC S (u2 G 1001 0 v) e X h) : RC S G e X h := by
  obtain ⟨hs, hrow, hm, hl, hle, hc, hn, hh, hg⟩ := hr
  exact ⟨hs, hrow, hm, hl, hle, hc, hn, hh, hg⟩
theorem lea_val {m : Nat} {w : UInt32} (hf : M 23 m = 1 → fpF (G 24 m)) : FP.Core.val32 (if M 23 m = 1 then u2 G 1001 0 w 24 m else 3212836864) ≠ .nan := by
  split
  · rename_i q
    exact PF_val (hf q)
  · exact m1_val
theorem lea_eq {m : Nat} {a b : UInt32} (h1 : M 23 m = 0 ∨ M 23 m = 1) (h2 : M 23 m = 1 → M 11 m = 2) : (if M 11 m = 2 ∧ ¬ M 23 m = 0 then a else b) = (if M 23 m = 1 then a else b) := by
  rcases h1 with q | q
  · rw [q, if_neg (fun w => w.2 rfl), if_neg (by decide)]
  · rw [if_pos q, if_pos ⟨h2 q, by rw [q]; decide⟩]
theorem op_clock (hL : LI L xs Z0 i h) (hi : i < 512) (hin : 5 * i + 5 ≤ L) (hLL : L ≤ 2560) (go : GO L xs Z0 60 (i + 1) Q) {x : Int32} (hx0 : xs (5 * i + 1) = x) : WP 59 mL_clock 0 [some (.ref 2), some (.int x), some (.ref 254), none] [] h (KK 59 mL_law mL_clock 1337 (lwL i u6 u7) [] Q) := by
  obtain ⟨e1, e3, M, G, C, Z, n, na, g, pa, pv, hr, hM, hM2, hI, hC, hZ⟩ := hL
  have hn := hI.1.1
  have hn35 := hI.1.2.1
  have hn5 : n ≤ 5 := by omega
  have hfl := hI.2.2.2.2.2.2.2.2.2
  obtain ⟨v, hv⟩ := WP_pick (d := 58) (y := mX11_clock) (pc := 0) (lo := [some (.ref 2), some (.int x)]) (stk := []) (h := h) oF 0 oF_inj (P := fun v o h' => (∃ m, x = Int32.ofNat m ∧ m < n ∧ o = oF (u2 G 1001 0 v 7 m) ∧ ∃ e1' e3', RC (u2 M 50 0 0) (u2 G 1001 0 v) (e1', 0, e3') (M, G, C, Z, L, xs) h') ∨ ((¬ (0 ≤ x.toInt ∧ x.toInt < n)) ∧ o = .inr 3 ∧ RC (u2 M 50 0 0) (u2 G 1001 0 v) (e1, 0, e3) (M, G, C + 1, Z + 6, L, xs) h')) (fun v => c_clock (rc_atF hr) hn hn5 (fun q => Or.inr ⟨q, rfl, rc_thr (rc_atF hr)⟩) (fun p q1 q2 => Or.inl ⟨p, q1, q2, rfl, e1, e3, rc_atF hr⟩))
  refine bL_clock_0 ⟨by decide, st_K_2 (rcS hr), hv.mono ?_⟩
  rintro o h' ⟨(⟨p, q1, q2, rfl, e1', e3', r⟩ | ⟨q, rfl, r⟩), hx'⟩
  · have _ := hI
    have ev := hx' _ rfl
    unfold oF
    rw [KK_ret]
    have vn : FP.Core.val32 v ≠ .nan := by rw [← ev]; exact PF_val (hfl.2.2.2.1 p (by omega)).1
    rw [ev]
    refine bL_clock_7 ⟨nn_val64 (val_nz vn), qK_c254 r hM hM2, inA_1 (qL_c254 r hM hM2), ?_⟩
    rw [show (0 : Int32).toNatClampNeg = 0 from rfl, KK_ret]
    have r1 := rc_outD r v
    refine bL_law_1340 ⟨(rc_scr r1).1, ix_in (k := 1) r1 hLL (by omega), by decide, q0 r1 hM, ?_⟩
    have ea0 := (ix_at (i := i) (k := 1) r1 hLL (by omega)).trans hx0
    rw [show Int32.ofNat (5 * i) + (1 : Int32) = Int32.ofNat (5 * i) + Int32.ofNat 1 from rfl, ea0]
    refine x_clock r1 hM hn hn35 (fun w => absurd ⟨by rw [q1, o_i _ (by omega)]; omega, by rw [q1, o_i _ (by omega)]; omega⟩ w) (fun p' q1' q2' h2 r2 => ?_)
    have ep : p' = p := o_inj (q1'.symm.trans q1) (by omega) (by omega)
    subst ep
    have m1 : (u2 M 50 0 0) 1000 0 = 0 := hM
    have m2 : (u2 M 50 0 0) 1002 0 = 0 := hM2
    have m5 : (u2 M 50 0 0) 50 0 = 0 := rfl
    have m3 : (u2 G 1001 0 v) 1001 0 = v := rfl
    rw [KK_ret]
    refine bL_law_1352 ⟨by decide, q0 r2 m1, x_thrown r2 m1 ?_⟩
    rw [KK_ret, m5]
    have ev2 : (u2 G 1001 0 v) 7 p' = v := ev
    rw [ev2]
    have eo := qAD_c254 r2 m1 m2
    rw [m3] at eo
    refine bL_law_1358 ⟨fun _ => ⟨fun w => absurd rfl w, fun _ => ⟨qK_c254 r2 m1 m2, inA_1 (qL_c254 r2 m1 m2), nn_val64 (val_nz vn), fun _ => ?_, fun w => absurd ?_ w⟩⟩, fun w => absurd rfl w⟩
    · exact go_on go r2 (fun _ _ _ _ => rfl) m1 m2 ((hI.a50.cgF v).up) (by omega) (by omega)
    · rw [show ((0 : Int32)).toNatClampNeg = 0 from rfl, eo]
      exact dc_self vn
  · refine KK_hdl rfl rfl rfl (bL_clock_13 ?_)
    rw [KK_ret]
    refine bL_law_1340 ⟨(rc_scr r).1, ix_in (k := 1) r hLL (by omega), by decide, q0 r hM, ?_⟩
    have ea0 := (ix_at (i := i) (k := 1) r hLL (by omega)).trans hx0
    rw [show Int32.ofNat (5 * i) + (1 : Int32) = Int32.ofNat (5 * i) + Int32.ofNat 1 from rfl, ea0]
    refine x_clock r hM hn hn35 (fun _ h2 r2 => ?_) (fun p q1 q2 => absurd ⟨by rw [q1, o_i _ (by omega)]; omega, by rw [q1, o_i _ (by omega)]; omega⟩ q)
    rw [KK_ret]
    refine bL_law_1352 ⟨by decide, q0 r2 hM, x_thrown r2 hM ?_⟩
    rw [KK_ret]
    refine bL_law_1358 ⟨fun _ => ⟨fun _ => ?_, fun w => absurd (by decide) w⟩, fun w => absurd rfl w⟩
    exact go_on go (rc_F r2) (fun s k h1 h2 => by rw [u2_ne (by omega), u2_ne (by omega)]) hM hM2 (hI.cg (fun s k q => by rw [u2_ne (by omega)])).up (by omega) (by omega)
theorem op_lease (hL : LI L xs Z0 i h) (hi : i < 512) (hin : 5 * i + 5 ≤ L) (hLL : L ≤ 2560) (go : GO L xs Z0 60 (i + 1) Q) {x : Int32} (hx0 : xs (5 * i + 1) = x) : WP 59 mL_lease 0 [some (.ref 2), some (.int x), some (.ref 254), none] [] h (KK 59 mL_law mL_lease 1415 (lwL i u6 u7) [] Q) := by
  obtain ⟨e1, e3, M, G, C, Z, n, na, g, pa, pv, hr, hM, hM2, hI, hC, hZ⟩ := hL
  have hn := hI.1.1
  have hn35 := hI.1.2.1
  have hn5 : n ≤ 5 := by omega
  have hfl := hI.2.2.2.2.2.2.2.2.2
  have h231 : ∀ m, m < n → M 23 m = 0 ∨ M 23 m = 1 := fun m hm => (hI.2.1 m (by omega)).2.2.2.2.1
  obtain ⟨v, hv⟩ := WP_pick (d := 58) (y := mX11_lease) (pc := 0) (lo := [some (.ref 2), some (.int x), none]) (stk := []) (h := h) oF 0 oF_inj (P := fun v o h' => (∃ m, x = Int32.ofNat m ∧ m < n ∧ o = oF (if M 23 m = 1 then u2 G 1001 0 v 24 m else 3212836864) ∧ ∃ e1' e3', RC (u2 M 50 0 0) (u2 G 1001 0 v) (e1', 0, e3') (M, G, C, Z, L, xs) h') ∨ ((¬ (0 ≤ x.toInt ∧ x.toInt < n)) ∧ o = .inr 3 ∧ RC (u2 M 50 0 0) (u2 G 1001 0 v) (e1, 0, e3) (M, G, C + 1, Z + 6, L, xs) h')) (fun v => c_lease (rc_atF hr) hn hn5 h231 (fun q => Or.inr ⟨q, rfl, rc_thr (rc_atF hr)⟩) (fun p q1 q2 => Or.inl ⟨p, q1, q2, rfl, e1, e3, rc_atF hr⟩))
  refine bL_lease_0 ⟨by decide, st_K_2 (rcS hr), hv.mono ?_⟩
  rintro o h' ⟨(⟨p, q1, q2, rfl, e1', e3', r⟩ | ⟨q, rfl, r⟩), hx'⟩
  · have _ := hI
    have ev := hx' _ rfl
    unfold oF
    rw [KK_ret]
    have vn : FP.Core.val32 v ≠ .nan := by rw [← ev]; exact lea_val (hfl.2.2.2.2.2 p (by omega))
    rw [ev]
    refine bL_lease_7 ⟨nn_val64 (val_nz vn), qK_c254 r hM hM2, inA_1 (qL_c254 r hM hM2), ?_⟩
    rw [show (0 : Int32).toNatClampNeg = 0 from rfl, KK_ret]
    have r1 := rc_outD r v
    refine bL_law_1418 ⟨(rc_scr r1).1, ix_in (k := 1) r1 hLL (by omega), by decide, q0 r1 hM, ?_⟩
    have ea0 := (ix_at (i := i) (k := 1) r1 hLL (by omega)).trans hx0
    rw [show Int32.ofNat (5 * i) + (1 : Int32) = Int32.ofNat (5 * i) + Int32.ofNat 1 from rfl, ea0]
    refine x_lease r1 hM hn hn35 (fun w => absurd ⟨by rw [q1, o_i _ (by omega)]; omega, by rw [q1, o_i _ (by omega)]; omega⟩ w) (fun p' q1' q2' h2 r2 => ?_)
    have ep : p' = p := o_inj (q1'.symm.trans q1) (by omega) (by omega)
    subst ep
    have m1 : (u2 M 50 0 0) 1000 0 = 0 := hM
    have m2 : (u2 M 50 0 0) 1002 0 = 0 := hM2
    have m5 : (u2 M 50 0 0) 50 0 = 0 := rfl
    have m3 : (u2 G 1001 0 v) 1001 0 = v := rfl
    rw [KK_ret]
    refine bL_law_1430 ⟨by decide, q0 r2 m1, x_thrown r2 m1 ?_⟩
    rw [KK_ret, m5]
    have ev2 : (if M 11 p' = 2 ∧ ¬ M 23 p' = 0 then (u2 G 1001 0 v) 24 p' else 3212836864) = v := by rw [← ev]; exact lea_eq (h231 p' q2) ((hI.2.1 p' (by omega)).2.2.2.2.2.1)
    rw [ev2]
    have eo := qAD_c254 r2 m1 m2
    rw [m3] at eo
    refine bL_law_1436 ⟨fun _ => ⟨fun w => absurd rfl w, fun _ => ⟨qK_c254 r2 m1 m2, inA_1 (qL_c254 r2 m1 m2), nn_val64 (val_nz vn), fun _ => ?_, fun w => absurd ?_ w⟩⟩, fun w => absurd rfl w⟩
    · exact go_on go r2 (fun _ _ _ _ => rfl) m1 m2 ((hI.a50.cgF v).up) (by omega) (by omega)
    · rw [show ((0 : Int32)).toNatClampNeg = 0 from rfl, eo]
      exact dc_self vn
  · refine KK_hdl rfl rfl rfl (bL_lease_13 ?_)
    rw [KK_ret]
    refine bL_law_1418 ⟨(rc_scr r).1, ix_in (k := 1) r hLL (by omega), by decide, q0 r hM, ?_⟩
    have ea0 := (ix_at (i := i) (k := 1) r hLL (by omega)).trans hx0
    rw [show Int32.ofNat (5 * i) + (1 : Int32) = Int32.ofNat (5 * i) + Int32.ofNat 1 from rfl, ea0]
    refine x_lease r hM hn hn35 (fun _ h2 r2 => ?_) (fun p q1 q2 => absurd ⟨by rw [q1, o_i _ (by omega)]; omega, by rw [q1, o_i _ (by omega)]; omega⟩ q)
    rw [KK_ret]
    refine bL_law_1430 ⟨by decide, q0 r2 hM, x_thrown r2 hM ?_⟩
    rw [KK_ret]
    refine bL_law_1436 ⟨fun _ => ⟨fun _ => ?_, fun w => absurd (by decide) w⟩, fun w => absurd rfl w⟩
    exact go_on go (rc_F r2) (fun s k h1 h2 => by rw [u2_ne (by omega), u2_ne (by omega)]) hM hM2 (hI.cg (fun s k q => by rw [u2_ne (by omega)])).up (by omega) (by omega)
theorem op_rate (hL : LI L xs Z0 i h) (hi : i < 512) (hin : 5 * i + 5 ≤ L) (hLL : L ≤ 2560) (go : GO L xs Z0 60 (i + 1) Q) {x : Int32} (hx0 : xs (5 * i + 1) = x) {y : Int32} (hx1 : xs (5 * i + 2) = y) : WP 59 mL_rate 0 [some (.ref 2), some (.int x), some (.int y), some (.ref 254), none] [] h (KK 59 mL_law mL_rate 377 (lwL i u6 u7) [] Q) := by
  obtain ⟨e1, e3, M, G, C, Z, n, na, g, pa, pv, hr, hM, hM2, hI, hC, hZ⟩ := hL
  have hn := hI.1.1
  have hn35 := hI.1.2.1
  have hn5 : n ≤ 5 := by omega
  have hfl := hI.2.2.2.2.2.2.2.2.2
  obtain ⟨v, hv⟩ := WP_pick (d := 58) (y := mX11_rate) (pc := 0) (lo := [some (.ref 2), some (.int x), some (.int y), none]) (stk := []) (h := h) oF 0 oF_inj (P := fun v o h' => (∃ m, x = Int32.ofNat m ∧ m < n ∧ (500 ≤ y.toInt ∧ y.toInt ≤ 1500) ∧ o = oF (u2 G 1001 0 v 7 m) ∧ ∃ e1' e3', RC (stepS (u2 M 50 0 0)) (u2 (u2 G 1001 0 v) 8 m (FP.fdiv (FP.i2f y) (1148846080 : UInt32))) (e1', 0, e3') (M, G, C, Z, L, xs) h') ∨ ((¬ (0 ≤ x.toInt ∧ x.toInt < n)) ∧ o = .inr 3 ∧ RC (u2 M 50 0 0) (u2 G 1001 0 v) (e1, 0, e3) (M, G, C + 1, Z + 6, L, xs) h') ∨ (((0 ≤ x.toInt ∧ x.toInt < n) ∧ ¬ (500 ≤ y.toInt ∧ y.toInt ≤ 1500)) ∧ o = .inr 1 ∧ RC (u2 M 50 0 0) (u2 G 1001 0 v) (e1, 0, e3) (M, G, C + 1, Z + 6, L, xs) h')) (fun v => c_rate (rc_atF hr) hn hn5 (nn_1000 _) (fun q h' r => Or.inr (Or.inl ⟨q, rfl, r⟩)) (fun q q2 h' r => Or.inr (Or.inr ⟨⟨q, q2⟩, rfl, r⟩)) (fun p q1 q2 q3 h' r => Or.inl ⟨p, q1, q2, q3, rfl, e1, e3, r⟩))
  refine bL_rate_0 ⟨by decide, st_K_2 (rcS hr), hv.mono ?_⟩
  rintro o h' ⟨(⟨p, q1, q2, q3, rfl, e1', e3', r⟩ | ⟨q, rfl, r⟩ | ⟨⟨q, q5⟩, rfl, r⟩), hx'⟩
  · have _ := hI
    have ev := hx' _ rfl
    unfold oF
    rw [KK_ret]
    have vn : FP.Core.val32 v ≠ .nan := by rw [← ev]; exact PF_val (hfl.2.2.2.1 p (by omega)).1
    rw [ev]
    refine bL_rate_8 ⟨nn_val64 (val_nz vn), qK_c254 r hM hM2, inA_1 (qL_c254 r hM hM2), ?_⟩
    rw [show (0 : Int32).toNatClampNeg = 0 from rfl, KK_ret]
    have r1 := rc_outD r v
    refine bL_law_380 ⟨(rc_scr r1).1, ix_in (k := 1) r1 hLL (by omega), ix_in (k := 2) r1 hLL (by omega), by decide, q0 r1 hM, ?_⟩
    have ea0 := (ix_at (i := i) (k := 1) r1 hLL (by omega)).trans hx0
    have ea1 := (ix_at (i := i) (k := 2) r1 hLL (by omega)).trans hx1
    rw [show Int32.ofNat (5 * i) + (1 : Int32) = Int32.ofNat (5 * i) + Int32.ofNat 1 from rfl, ea0, show Int32.ofNat (5 * i) + (2 : Int32) = Int32.ofNat (5 * i) + Int32.ofNat 2 from rfl, ea1]
    refine x_rate r1 hM hn hn35 (nn_1000 _) (fun w => absurd ⟨by rw [q1, o_i _ (by omega)]; omega, by rw [q1, o_i _ (by omega)]; omega⟩ w) (fun _ w => absurd q3 w) (fun p' q1' q2' q3' h2 r2 => ?_)
    have ep : p' = p := o_inj (q1'.symm.trans q1) (by omega) (by omega)
    subst ep
    have m1 : (stepS (u2 M 50 0 0)) 1000 0 = 0 := hM
    have m2 : (stepS (u2 M 50 0 0)) 1002 0 = 0 := hM2
    have m5 : (stepS (u2 M 50 0 0)) 50 0 = 0 := rfl
    have m3 : (u2 (u2 G 1001 0 v) 8 p' (FP.fdiv (FP.i2f y) (1148846080 : UInt32))) 1001 0 = v := rfl
    rw [KK_ret]
    refine bL_law_398 ⟨by decide, q0 r2 m1, x_thrown r2 m1 ?_⟩
    rw [KK_ret, m5]
    have ev2 : (u2 G 1001 0 v) 7 p' = v := ev
    rw [ev2]
    have eo := qAD_c254 r2 m1 m2
    rw [m3] at eo
    refine bL_law_404 ⟨fun _ => ⟨fun w => absurd rfl w, fun _ => ⟨qK_c254 r2 m1 m2, inA_1 (qL_c254 r2 m1 m2), nn_val64 (val_nz vn), fun _ => ?_, fun w => absurd ?_ w⟩⟩, fun w => absurd rfl w⟩
    · exact go_on go r2 (fun _ _ _ _ => rfl) m1 m2 (inv_rate (by omega) (hI.a50.cgF v) (PQ_rate q3)) (by omega) (by omega)
    · rw [show ((0 : Int32)).toNatClampNeg = 0 from rfl, eo]
      exact dc_self vn
  · refine KK_hdl rfl rfl rfl (bL_rate_15 ?_)
    rw [KK_ret]
    refine bL_law_380 ⟨(rc_scr r).1, ix_in (k := 1) r hLL (by omega), ix_in (k := 2) r hLL (by omega), by decide, q0 r hM, ?_⟩
    have ea0 := (ix_at (i := i) (k := 1) r hLL (by omega)).trans hx0
    have ea1 := (ix_at (i := i) (k := 2) r hLL (by omega)).trans hx1
    rw [show Int32.ofNat (5 * i) + (1 : Int32) = Int32.ofNat (5 * i) + Int32.ofNat 1 from rfl, ea0, show Int32.ofNat (5 * i) + (2 : Int32) = Int32.ofNat (5 * i) + Int32.ofNat 2 from rfl, ea1]
    refine x_rate r hM hn hn35 (nn_1000 _) (fun _ h2 r2 => ?_) (fun w => absurd w q) (fun p q1 q2 => absurd ⟨by rw [q1, o_i _ (by omega)]; omega, by rw [q1, o_i _ (by omega)]; omega⟩ q)
    rw [KK_ret]
    refine bL_law_398 ⟨by decide, q0 r2 hM, x_thrown r2 hM ?_⟩
    rw [KK_ret]
    refine bL_law_404 ⟨fun _ => ⟨fun _ => ?_, fun w => absurd (by decide) w⟩, fun w => absurd rfl w⟩
    exact go_on go (rc_F r2) (fun s k h1 h2 => by rw [u2_ne (by omega), u2_ne (by omega)]) hM hM2 (hI.cg (fun s k q => by rw [u2_ne (by omega)])).up (by omega) (by omega)
  · refine KK_hdl rfl rfl rfl (bL_rate_19 ?_)
    rw [KK_ret]
    refine bL_law_380 ⟨(rc_scr r).1, ix_in (k := 1) r hLL (by omega), ix_in (k := 2) r hLL (by omega), by decide, q0 r hM, ?_⟩
    have ea0 := (ix_at (i := i) (k := 1) r hLL (by omega)).trans hx0
    have ea1 := (ix_at (i := i) (k := 2) r hLL (by omega)).trans hx1
    rw [show Int32.ofNat (5 * i) + (1 : Int32) = Int32.ofNat (5 * i) + Int32.ofNat 1 from rfl, ea0, show Int32.ofNat (5 * i) + (2 : Int32) = Int32.ofNat (5 * i) + Int32.ofNat 2 from rfl, ea1]
    refine x_rate r hM hn hn35 (nn_1000 _) (fun w => absurd q w) (fun _ _ h2 r2 => ?_) (fun p q1 q2 q3 => absurd q3 q5)
    rw [KK_ret]
    refine bL_law_398 ⟨by decide, q0 r2 hM, x_thrown r2 hM ?_⟩
    rw [KK_ret]
    refine bL_law_404 ⟨fun _ => ⟨fun _ => ?_, fun w => absurd (by decide) w⟩, fun w => absurd rfl w⟩
    exact go_on go (rc_F r2) (fun s k h1 h2 => by rw [u2_ne (by omega), u2_ne (by omega)]) hM hM2 (hI.cg (fun s k q => by rw [u2_ne (by omega)])).up (by omega) (by omega)
theorem op_spans (hL : LI L xs Z0 i h) (hi : i < 512) (hin : 5 * i + 5 ≤ L) (hLL : L ≤ 2560) (go : GO L xs Z0 60 (i + 1) Q) {x : Int32} (hx0 : xs (5 * i + 1) = x) {y : Int32} (hx1 : xs (5 * i + 2) = y) : WP 59 mL_spans 0 [some (.ref 2), some (.int x), some (.int y), none] [] h (KK 59 mL_law mL_spans 465 (lwL i u6 u7) [] Q) := by
  obtain ⟨e1, e3, M, G, C, Z, n, na, g, pa, pv, hr, hM, hM2, hI, hC, hZ⟩ := hL
  have hfl := hI.2.2.2.2.2.2.2.2.2
  obtain ⟨v, hv⟩ := WP_pick (d := 58) (y := mX11_spans) (pc := 0) (lo := [some (.ref 2), some (.int x), some (.int y)]) (stk := []) (h := h) oI 0 oI_inj (P := fun v o h' => (∃ _u : Unit, ((1 ≤ x.toInt ∧ x.toInt ≤ 1000) ∧ (0 ≤ y.toInt ∧ y.toInt ≤ 90)) ∧ o = .inl none ∧ ∃ e1' e3', RC (stepS (u2 M 50 0 0)) (u2 (u2 G 2 0 (FP.fdiv (FP.i2f x) (1092616192 : UInt32))) 3 0 (FP.fdiv (FP.i2f y) (1120403456 : UInt32))) (e1', 0, e3') (M, G, C, Z, L, xs) h') ∨ ((¬ ((1 ≤ x.toInt ∧ x.toInt ≤ 1000) ∧ (0 ≤ y.toInt ∧ y.toInt ≤ 90))) ∧ o = .inr 1 ∧ RC (u2 M 50 0 0) (G) (e1, 0, e3) (M, G, C + 1, Z + 6, L, xs) h')) (fun v => c_spans (rc_a50 hr) (nn_10 _) (nn_100 _) (fun q h' r => Or.inr ⟨q, rfl, r⟩) (fun q h' r => Or.inl ⟨(), q, rfl, e1, e3, r⟩))
  refine bL_spans_0 ⟨by decide, st_K_2 (rcS hr), hv.mono ?_⟩
  rintro o h' ⟨(⟨_, q, rfl, e1', e3', r⟩ | ⟨q, rfl, r⟩), hx'⟩
  · have _ := hI
    rw [KK_ret]
    refine bL_spans_6 ?_
    rw [KK_ret]
    have r1 := r
    refine bL_law_468 ⟨(rc_scr r1).1, ix_in (k := 1) r1 hLL (by omega), ix_in (k := 2) r1 hLL (by omega), by decide, q0 r1 hM, ?_⟩
    have ea0 := (ix_at (i := i) (k := 1) r1 hLL (by omega)).trans hx0
    have ea1 := (ix_at (i := i) (k := 2) r1 hLL (by omega)).trans hx1
    rw [show Int32.ofNat (5 * i) + (1 : Int32) = Int32.ofNat (5 * i) + Int32.ofNat 1 from rfl, ea0, show Int32.ofNat (5 * i) + (2 : Int32) = Int32.ofNat (5 * i) + Int32.ofNat 2 from rfl, ea1]
    refine x_spans r1 hM (nn_10 _) (nn_100 _) (fun w => absurd q w) (fun _ h2 r2 => ?_)
    have m1 : (stepS (u2 M 50 0 0)) 1000 0 = 0 := hM
    have m2 : (stepS (u2 M 50 0 0)) 1002 0 = 0 := hM2
    have m5 : (stepS (u2 M 50 0 0)) 50 0 = 0 := rfl
    rw [KK_ret]
    refine bL_law_486 ⟨by decide, q0 r2 m1, x_thrown r2 m1 ?_⟩
    rw [KK_ret, m5]
    refine bL_law_490 ⟨fun _ => ?_, fun w => absurd rfl w⟩
    exact go_on go r2 (fun _ _ _ _ => rfl) m1 m2 (inv_spans (by omega) hI.a50 (PQ_time q.1) (PQ_bound q.2)) (by omega) (by omega)
  · refine KK_hdl rfl rfl rfl (bL_spans_10 ?_)
    rw [KK_ret]
    refine bL_law_468 ⟨(rc_scr r).1, ix_in (k := 1) r hLL (by omega), ix_in (k := 2) r hLL (by omega), by decide, q0 r hM, ?_⟩
    have ea0 := (ix_at (i := i) (k := 1) r hLL (by omega)).trans hx0
    have ea1 := (ix_at (i := i) (k := 2) r hLL (by omega)).trans hx1
    rw [show Int32.ofNat (5 * i) + (1 : Int32) = Int32.ofNat (5 * i) + Int32.ofNat 1 from rfl, ea0, show Int32.ofNat (5 * i) + (2 : Int32) = Int32.ofNat (5 * i) + Int32.ofNat 2 from rfl, ea1]
    refine x_spans r hM (nn_10 _) (nn_100 _) (fun _ h2 r2 => ?_) (fun w => absurd w q)
    rw [KK_ret]
    refine bL_law_486 ⟨by decide, q0 r2 hM, x_thrown r2 hM ?_⟩
    rw [KK_ret]
    refine bL_law_490 ⟨fun _ => ?_, fun w => absurd rfl w⟩
    exact go_on go r2 (fun s k h1 h2 => by rw [u2_ne (by omega), u2_ne (by omega)]) hM hM2 (hI.cg (fun s k q => by rw [u2_ne (by omega)])).up (by omega) (by omega)
end LAWDF
