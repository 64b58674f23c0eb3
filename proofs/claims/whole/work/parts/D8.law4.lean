/-! ===== the law: what is asked of the hall ===== -/
section LAWD8
variable {h h' : HP} {Q : Out → HP → Prop} {S : SI} {F : SF} {e : EX} {M : SI} {G : SF} {C Z L Z0 i n na st : Nat} {xs : Nat → Int32} {g : YG} {pa : Nat → ZA} {pv : Nat → ZV} {e1 : Int32} {e3 : RW × UInt32} {u6 u7 : Option Value}
theorem ofV_at {v : Int32} {m : Nat} : ∀ {j : Nat}, ofV (u2 M 1001 0 v) G m j = ofV (sAt M v) G m j
  | 0 => rfl
  | 1 => rfl
  | 2 => rfl
  | 3 => rfl
  | 4 => rfl
  | 5 => valU_congr (S := sAt M v) (S' := u2 M 1001 0 v) rfl rfl rfl m (nt (M 13 m))
  | 6 => rfl
  | _ + 7 => rfl
theorem op_message (hL : LI L xs Z0 i h) (hi : i < 512) (hin : 5 * i + 5 ≤ L) (hLL : L ≤ 2560) (go : GO L xs Z0 60 (i + 1) Q) {x : Int32} (hx0 : xs (5 * i + 1) = x) {y : Int32} (hx1 : xs (5 * i + 2) = y) : WP 59 mL_message 0 [some (.ref 2), some (.int x), some (.int y), some (.ref 253), none] [] h (KK 59 mL_law mL_message 1126 (lwL i u6 u7) [] Q) := by
  obtain ⟨e1, e3, M, G, C, Z, n, na, g, pa, pv, hr, hM, hM2, hI, hC, hZ⟩ := hL
  obtain ⟨qn, hq, hq60, _⟩ := id hI.2.2.2.2.2.2.2.2.1
  obtain ⟨v, hv⟩ := WP_pick (d := 58) (y := mX11_message) (pc := 0) (lo := [some (.ref 2), some (.int x), some (.int y), none]) (stk := []) (h := h) oI 0 oI_inj (P := fun v o h' => (∃ p j, x = Int32.ofNat p ∧ p < qn ∧ y = Int32.ofNat j ∧ j ≤ 4 ∧ o = oI (sAt M v 37 (24 * p + if j = 4 then 8 else j)) ∧ ∃ e1' e3', RC (sAt M v) G (e1', 0, e3') (M, G, C, Z, L, xs) h') ∨ ((¬ (0 ≤ x.toInt ∧ x.toInt < qn)) ∧ o = .inr 3 ∧ RC (sAt M v) G (e1, 0, e3) (M, G, C + 1, Z + 6, L, xs) h') ∨ (((0 ≤ x.toInt ∧ x.toInt < qn) ∧ ¬ (0 ≤ y.toInt ∧ y.toInt ≤ 4)) ∧ o = .inr 1 ∧ RC (sAt M v) G (e1, 0, e3) (M, G, C + 1, Z + 6, L, xs) h')) (fun v => c_message (rc_at hr) hq hq60 (fun q => Or.inr (Or.inl ⟨q, rfl, rc_thr (rc_at hr)⟩)) (fun q q2 => Or.inr (Or.inr ⟨⟨q, q2⟩, rfl, rc_thr (rc_at hr)⟩)) (fun p j q1 q2 q3 q4 => Or.inl ⟨p, j, q1, q2, q3, q4, rfl, e1, e3, rc_at hr⟩))
  refine bL_message_0 ⟨by decide, st_K_2 (rcS hr), hv.mono ?_⟩
  rintro o h' ⟨(⟨p, j, q1, q2, q3, q4, rfl, e1', e3', r⟩ | ⟨q, rfl, r⟩ | ⟨⟨q, q5⟩, rfl, r⟩), hx'⟩
  · have _ := hI
    have ev := hx' _ rfl
    unfold oI
    rw [KK_ret]
    refine bL_message_8 ⟨qK_c253 r hM hM2, inA_1 (qL_c253 r hM hM2), ?_⟩
    rw [ev, show (0 : Int32).toNatClampNeg = 0 from rfl, KK_ret]
    have r1 := rc_outL r v
    refine bL_law_1129 ⟨(rc_scr r1).1, ix_in (k := 1) r1 hLL (by omega), ix_in (k := 2) r1 hLL (by omega), by decide, q0 r1 hM, ?_⟩
    have ea0 := (ix_at (i := i) (k := 1) r1 hLL (by omega)).trans hx0
    have ea1 := (ix_at (i := i) (k := 2) r1 hLL (by omega)).trans hx1
    rw [show Int32.ofNat (5 * i) + (1 : Int32) = Int32.ofNat (5 * i) + Int32.ofNat 1 from rfl, ea0, show Int32.ofNat (5 * i) + (2 : Int32) = Int32.ofNat (5 * i) + Int32.ofNat 2 from rfl, ea1]
    refine x_message r1 hM hq hq60 (fun w => absurd ⟨by rw [q1, o_i _ (by omega)]; omega, by rw [q1, o_i _ (by omega)]; omega⟩ w) (fun _ w => absurd ⟨by rw [q3, o_i _ (by omega)]; omega, by rw [q3, o_i _ (by omega)]; omega⟩ w) (fun p' j' q1' q2' q3' q4' h2 r2 => ?_)
    have ep : p' = p := o_inj (q1'.symm.trans q1) (by omega) (by omega)
    subst ep
    have ej : j' = j := o_inj (q3'.symm.trans q3) (by omega) (by omega)
    subst ej
    have m1 : (u2 (u2 M 1001 0 v) 50 0 0) 1000 0 = 0 := hM
    have m2 : (u2 (u2 M 1001 0 v) 50 0 0) 1002 0 = 0 := hM2
    have m3 : (u2 (u2 M 1001 0 v) 50 0 0) 1001 0 = v := rfl
    have m5 : (u2 (u2 M 1001 0 v) 50 0 0) 50 0 = 0 := rfl
    rw [KK_ret]
    refine bL_law_1147 ⟨by decide, q0 r2 m1, x_thrown r2 m1 ?_⟩
    rw [KK_ret, m5]
    refine bL_law_1153 ⟨fun _ => ⟨fun w => absurd rfl w, fun _ => ⟨qK_c253 r2 m1 m2, inA_1 (qL_c253 r2 m1 m2), fun _ => ?_, fun w => absurd ?_ w⟩⟩, fun w => absurd rfl w⟩
    · exact go_on go r2 (fun _ _ _ _ => rfl) m1 m2 (hI.at.up) (by omega) (by omega)
    · have eo := qAL_c253 r2 m1 m2
      rw [show ((0 : Int32)).toNatClampNeg = 0 from rfl, eo, m3]
      have ev2 : (u2 M 1001 0 v) 37 (24 * p' + if j' = 4 then 8 else j') = v := ev
      rw [ev2]
      exact lg_eq _
  · refine KK_hdl rfl rfl rfl (bL_message_15 ?_)
    rw [KK_ret]
    refine bL_law_1129 ⟨(rc_scr r).1, ix_in (k := 1) r hLL (by omega), ix_in (k := 2) r hLL (by omega), by decide, q0 r hM, ?_⟩
    have ea0 := (ix_at (i := i) (k := 1) r hLL (by omega)).trans hx0
    have ea1 := (ix_at (i := i) (k := 2) r hLL (by omega)).trans hx1
    rw [show Int32.ofNat (5 * i) + (1 : Int32) = Int32.ofNat (5 * i) + Int32.ofNat 1 from rfl, ea0, show Int32.ofNat (5 * i) + (2 : Int32) = Int32.ofNat (5 * i) + Int32.ofNat 2 from rfl, ea1]
    refine x_message r hM hq hq60 (fun _ h2 r2 => ?_) (fun w => absurd w q) (fun p j q1 q2 => absurd ⟨by rw [q1, o_i _ (by omega)]; omega, by rw [q1, o_i _ (by omega)]; omega⟩ q)
    rw [KK_ret]
    refine bL_law_1147 ⟨by decide, q0 r2 hM, x_thrown r2 hM ?_⟩
    rw [KK_ret]
    refine bL_law_1153 ⟨fun _ => ⟨fun _ => ?_, fun w => absurd (by decide) w⟩, fun w => absurd rfl w⟩
    exact go_on go r2 (fun s k h1 h2 => by unfold sAt; rw [u2_ne (by omega), u2_ne (by omega), u2_ne (by omega)]) hM hM2 (hI.cg (fun s k q => by rw [u2_ne (by omega)])).up (by omega) (by omega)
  · refine KK_hdl rfl rfl rfl (bL_message_19 ?_)
    rw [KK_ret]
    refine bL_law_1129 ⟨(rc_scr r).1, ix_in (k := 1) r hLL (by omega), ix_in (k := 2) r hLL (by omega), by decide, q0 r hM, ?_⟩
    have ea0 := (ix_at (i := i) (k := 1) r hLL (by omega)).trans hx0
    have ea1 := (ix_at (i := i) (k := 2) r hLL (by omega)).trans hx1
    rw [show Int32.ofNat (5 * i) + (1 : Int32) = Int32.ofNat (5 * i) + Int32.ofNat 1 from rfl, ea0, show Int32.ofNat (5 * i) + (2 : Int32) = Int32.ofNat (5 * i) + Int32.ofNat 2 from rfl, ea1]
    refine x_message r hM hq hq60 (fun w => absurd q w) (fun _ _ h2 r2 => ?_) (fun p j q1 q2 q3 q4 => absurd ⟨by rw [q3, o_i _ (by omega)]; omega, by rw [q3, o_i _ (by omega)]; omega⟩ q5)
    rw [KK_ret]
    refine bL_law_1147 ⟨by decide, q0 r2 hM, x_thrown r2 hM ?_⟩
    rw [KK_ret]
    refine bL_law_1153 ⟨fun _ => ⟨fun _ => ?_, fun w => absurd (by decide) w⟩, fun w => absurd rfl w⟩
    exact go_on go r2 (fun s k h1 h2 => by unfold sAt; rw [u2_ne (by omega), u2_ne (by omega), u2_ne (by omega)]) hM hM2 (hI.cg (fun s k q => by rw [u2_ne (by omega)])).up (by omega) (by omega)
theorem op_of (hL : LI L xs Z0 i h) (hi : i < 512) (hin : 5 * i + 5 ≤ L) (hLL : L ≤ 2560) (go : GO L xs Z0 60 (i + 1) Q) {x : Int32} (hx0 : xs (5 * i + 1) = x) {y : Int32} (hx1 : xs (5 * i + 2) = y) : WP 59 mL_of 0 [some (.ref 2), some (.int x), some (.int y), some (.ref 253), none] [] h (KK 59 mL_law mL_of 1194 (lwL i u6 u7) [] Q) := by
  obtain ⟨e1, e3, M, G, C, Z, n, na, g, pa, pv, hr, hM, hM2, hI, hC, hZ⟩ := hL
  have hn := hI.1.1
  have hn35 := hI.1.2.1
  have hn5 : n ≤ 5 := by omega
  have hlc : ∀ m, m < n → ∃ l c, M 12 m = Int32.ofNat l ∧ l ≤ 30 ∧ M 13 m = Int32.ofNat c ∧ c ≤ l := fun m hm => by
    obtain ⟨l, b1, b2, c, b3, b4⟩ := (hI.2.1 m (by omega)).1
    exact ⟨l, c, b1, b2, b3, b4⟩
  have hci : ∀ m, m < n → ∃ ci, M 13 m = Int32.ofNat ci ∧ ci ≤ 30 := fun m hm => by
    obtain ⟨l, c, b1, b2, b3, b4⟩ := hlc m hm
    exact ⟨c, b3, by omega⟩
  have hln : ∀ m, m < n → ∃ l, M 12 m = Int32.ofNat l ∧ l ≤ 30 := fun m hm => inv_lens hI m (by omega)
  obtain ⟨v, hv⟩ := WP_pick (d := 58) (y := mX11_of) (pc := 0) (lo := [some (.ref 2), some (.int x), some (.int y), none]) (stk := []) (h := h) oI 0 oI_inj (P := fun v o h' => (∃ m j, x = Int32.ofNat m ∧ m < n ∧ y = Int32.ofNat j ∧ j ≤ 7 ∧ o = oI (ofV (sAt M v) G m j) ∧ ∃ e1' e3', RC (sAt M v) G (e1', 0, e3') (M, G, C, Z, L, xs) h') ∨ ((¬ (0 ≤ x.toInt ∧ x.toInt < n)) ∧ o = .inr 3 ∧ RC (sAt M v) G (e1, 0, e3) (M, G, C + 1, Z + 6, L, xs) h') ∨ (((0 ≤ x.toInt ∧ x.toInt < n) ∧ ¬ (0 ≤ y.toInt ∧ y.toInt ≤ 7)) ∧ o = .inr 1 ∧ RC (sAt M v) G (e1, 0, e3) (M, G, C + 1, Z + 6, L, xs) h')) (fun v => c_of (rc_at hr) hn hn5 hlc (fun q => Or.inr (Or.inl ⟨q, rfl, rc_thr (rc_at hr)⟩)) (fun q q2 => Or.inr (Or.inr ⟨⟨q, q2⟩, rfl, rc_thr (rc_at hr)⟩)) (fun p j q1 q2 q3 q4 => Or.inl ⟨p, j, q1, q2, q3, q4, rfl, e1, e3, rc_at hr⟩))
  refine bL_of_0 ⟨by decide, st_K_2 (rcS hr), hv.mono ?_⟩
  rintro o h' ⟨(⟨p, j, q1, q2, q3, q4, rfl, e1', e3', r⟩ | ⟨q, rfl, r⟩ | ⟨⟨q, q5⟩, rfl, r⟩), hx'⟩
  · have _ := hI
    have ev := hx' _ rfl
    unfold oI
    rw [KK_ret]
    refine bL_of_8 ⟨qK_c253 r hM hM2, inA_1 (qL_c253 r hM hM2), ?_⟩
    rw [ev, show (0 : Int32).toNatClampNeg = 0 from rfl, KK_ret]
    have r1 := rc_outL r v
    refine bL_law_1197 ⟨(rc_scr r1).1, ix_in (k := 1) r1 hLL (by omega), ix_in (k := 2) r1 hLL (by omega), by decide, q0 r1 hM, ?_⟩
    have ea0 := (ix_at (i := i) (k := 1) r1 hLL (by omega)).trans hx0
    have ea1 := (ix_at (i := i) (k := 2) r1 hLL (by omega)).trans hx1
    rw [show Int32.ofNat (5 * i) + (1 : Int32) = Int32.ofNat (5 * i) + Int32.ofNat 1 from rfl, ea0, show Int32.ofNat (5 * i) + (2 : Int32) = Int32.ofNat (5 * i) + Int32.ofNat 2 from rfl, ea1]
    refine x_of r1 hM hn hn35 hci (fun w => absurd ⟨by rw [q1, o_i _ (by omega)]; omega, by rw [q1, o_i _ (by omega)]; omega⟩ w) (fun _ w => absurd ⟨by rw [q3, o_i _ (by omega)]; omega, by rw [q3, o_i _ (by omega)]; omega⟩ w) (fun p' j' q1' q2' q3' q4' h2 r2 => ?_)
    have ep : p' = p := o_inj (q1'.symm.trans q1) (by omega) (by omega)
    subst ep
    have ej : j' = j := o_inj (q3'.symm.trans q3) (by omega) (by omega)
    subst ej
    have m1 : (u2 (u2 M 1001 0 v) 50 0 0) 1000 0 = 0 := hM
    have m2 : (u2 (u2 M 1001 0 v) 50 0 0) 1002 0 = 0 := hM2
    have m3 : (u2 (u2 M 1001 0 v) 50 0 0) 1001 0 = v := rfl
    have m5 : (u2 (u2 M 1001 0 v) 50 0 0) 50 0 = 0 := rfl
    rw [KK_ret]
    refine bL_law_1215 ⟨by decide, q0 r2 m1, x_thrown r2 m1 ?_⟩
    rw [KK_ret, m5]
    refine bL_law_1221 ⟨fun _ => ⟨fun w => absurd rfl w, fun _ => ⟨qK_c253 r2 m1 m2, inA_1 (qL_c253 r2 m1 m2), fun _ => ?_, fun w => absurd ?_ w⟩⟩, fun w => absurd rfl w⟩
    · exact go_on go r2 (fun _ _ _ _ => rfl) m1 m2 (hI.at.up) (by omega) (by omega)
    · have eo := qAL_c253 r2 m1 m2
      rw [show ((0 : Int32)).toNatClampNeg = 0 from rfl, eo, m3]
      have ev2 : ofV (u2 M 1001 0 v) G p' j' = v := ofV_at.trans ev
      rw [ev2]
      exact lg_eq _
  · refine KK_hdl rfl rfl rfl (bL_of_15 ?_)
    rw [KK_ret]
    refine bL_law_1197 ⟨(rc_scr r).1, ix_in (k := 1) r hLL (by omega), ix_in (k := 2) r hLL (by omega), by decide, q0 r hM, ?_⟩
    have ea0 := (ix_at (i := i) (k := 1) r hLL (by omega)).trans hx0
    have ea1 := (ix_at (i := i) (k := 2) r hLL (by omega)).trans hx1
    rw [show Int32.ofNat (5 * i) + (1 : Int32) = Int32.ofNat (5 * i) + Int32.ofNat 1 from rfl, ea0, show Int32.ofNat (5 * i) + (2 : Int32) = Int32.ofNat (5 * i) + Int32.ofNat 2 from rfl, ea1]
    refine x_of r hM hn hn35 hci (fun _ h2 r2 => ?_) (fun w => absurd w q) (fun p j q1 q2 => absurd ⟨by rw [q1, o_i _ (by omega)]; omega, by rw [q1, o_i _ (by omega)]; omega⟩ q)
    rw [KK_ret]
    refine bL_law_1215 ⟨by decide, q0 r2 hM, x_thrown r2 hM ?_⟩
    rw [KK_ret]
    refine bL_law_1221 ⟨fun _ => ⟨fun _ => ?_, fun w => absurd (by decide) w⟩, fun w => absurd rfl w⟩
    exact go_on go r2 (fun s k h1 h2 => by unfold sAt; rw [u2_ne (by omega), u2_ne (by omega), u2_ne (by omega)]) hM hM2 (hI.cg (fun s k q => by rw [u2_ne (by omega)])).up (by omega) (by omega)
  · refine KK_hdl rfl rfl rfl (bL_of_19 ?_)
    rw [KK_ret]
    refine bL_law_1197 ⟨(rc_scr r).1, ix_in (k := 1) r hLL (by omega), ix_in (k := 2) r hLL (by omega), by decide, q0 r hM, ?_⟩
    have ea0 := (ix_at (i := i) (k := 1) r hLL (by omega)).trans hx0
    have ea1 := (ix_at (i := i) (k := 2) r hLL (by omega)).trans hx1
    rw [show Int32.ofNat (5 * i) + (1 : Int32) = Int32.ofNat (5 * i) + Int32.ofNat 1 from rfl, ea0, show Int32.ofNat (5 * i) + (2 : Int32) = Int32.ofNat (5 * i) + Int32.ofNat 2 from rfl, ea1]
    refine x_of r hM hn hn35 hci (fun w => absurd q w) (fun _ _ h2 r2 => ?_) (fun p j q1 q2 q3 q4 => absurd ⟨by rw [q3, o_i _ (by omega)]; omega, by rw [q3, o_i _ (by omega)]; omega⟩ q5)
    rw [KK_ret]
    refine bL_law_1215 ⟨by decide, q0 r2 hM, x_thrown r2 hM ?_⟩
    rw [KK_ret]
    refine bL_law_1221 ⟨fun _ => ⟨fun _ => ?_, fun w => absurd (by decide) w⟩, fun w => absurd rfl w⟩
    exact go_on go r2 (fun s k h1 h2 => by unfold sAt; rw [u2_ne (by omega), u2_ne (by omega), u2_ne (by omega)]) hM hM2 (hI.cg (fun s k q => by rw [u2_ne (by omega)])).up (by omega) (by omega)
theorem op_act (hL : LI L xs Z0 i h) (hi : i < 512) (hin : 5 * i + 5 ≤ L) (hLL : L ≤ 2560) (go : GO L xs Z0 60 (i + 1) Q) {x : Int32} (hx0 : xs (5 * i + 1) = x) {y : Int32} (hx1 : xs (5 * i + 2) = y) : WP 59 mL_act 0 [some (.ref 2), some (.int x), some (.int y), some (.ref 253), none] [] h (KK 59 mL_law mL_act 1604 (lwL i u6 u7) [] Q) := by
  obtain ⟨e1, e3, M, G, C, Z, n, na, g, pa, pv, hr, hM, hM2, hI, hC, hZ⟩ := hL
  have ha := hI.1.2.2.1
  have ha14 := hI.2.2.2.2.2.2.2.1.1.1
  obtain ⟨v, hv⟩ := WP_pick (d := 58) (y := mX11_act) (pc := 0) (lo := [some (.ref 2), some (.int x), some (.int y), none]) (stk := []) (h := h) oI 0 oI_inj (P := fun v o h' => (∃ m j, x = Int32.ofNat m ∧ m < na ∧ y = Int32.ofNat j ∧ j ≤ 3 ∧ o = oI (actV (sAt M v) m j) ∧ ∃ e1' e3', RC (sAt M v) G (e1', 0, e3') (M, G, C, Z, L, xs) h') ∨ ((¬ (0 ≤ x.toInt ∧ x.toInt < na)) ∧ o = .inr 3 ∧ RC (sAt M v) G (e1, 0, e3) (M, G, C + 1, Z + 6, L, xs) h') ∨ (((0 ≤ x.toInt ∧ x.toInt < na) ∧ ¬ (0 ≤ y.toInt ∧ y.toInt ≤ 3)) ∧ o = .inr 1 ∧ RC (sAt M v) G (e1, 0, e3) (M, G, C + 1, Z + 6, L, xs) h')) (fun v => c_act (rc_at hr) ha ha14 (fun q => Or.inr (Or.inl ⟨q, rfl, rc_thr (rc_at hr)⟩)) (fun q q2 => Or.inr (Or.inr ⟨⟨q, q2⟩, rfl, rc_thr (rc_at hr)⟩)) (fun p j q1 q2 q3 q4 => Or.inl ⟨p, j, q1, q2, q3, q4, rfl, e1, e3, rc_at hr⟩))
  refine bL_act_0 ⟨by decide, st_K_2 (rcS hr), hv.mono ?_⟩
  rintro o h' ⟨(⟨p, j, q1, q2, q3, q4, rfl, e1', e3', r⟩ | ⟨q, rfl, r⟩ | ⟨⟨q, q5⟩, rfl, r⟩), hx'⟩
  · have _ := hI
    have ev := hx' _ rfl
    unfold oI
    rw [KK_ret]
    refine bL_act_8 ⟨qK_c253 r hM hM2, inA_1 (qL_c253 r hM hM2), ?_⟩
    rw [ev, show (0 : Int32).toNatClampNeg = 0 from rfl, KK_ret]
    have r1 := rc_outL r v
    refine bL_law_1607 ⟨(rc_scr r1).1, ix_in (k := 1) r1 hLL (by omega), ix_in (k := 2) r1 hLL (by omega), by decide, q0 r1 hM, ?_⟩
    have ea0 := (ix_at (i := i) (k := 1) r1 hLL (by omega)).trans hx0
    have ea1 := (ix_at (i := i) (k := 2) r1 hLL (by omega)).trans hx1
    rw [show Int32.ofNat (5 * i) + (1 : Int32) = Int32.ofNat (5 * i) + Int32.ofNat 1 from rfl, ea0, show Int32.ofNat (5 * i) + (2 : Int32) = Int32.ofNat (5 * i) + Int32.ofNat 2 from rfl, ea1]
    refine x_act r1 hM ha ha14 (fun w => absurd ⟨by rw [q1, o_i _ (by omega)]; omega, by rw [q1, o_i _ (by omega)]; omega⟩ w) (fun _ w => absurd ⟨by rw [q3, o_i _ (by omega)]; omega, by rw [q3, o_i _ (by omega)]; omega⟩ w) (fun p' j' q1' q2' q3' q4' h2 r2 => ?_)
    have ep : p' = p := o_inj (q1'.symm.trans q1) (by omega) (by omega)
    subst ep
    have ej : j' = j := o_inj (q3'.symm.trans q3) (by omega) (by omega)
    subst ej
    have m1 : (u2 (u2 M 1001 0 v) 50 0 0) 1000 0 = 0 := hM
    have m2 : (u2 (u2 M 1001 0 v) 50 0 0) 1002 0 = 0 := hM2
    have m3 : (u2 (u2 M 1001 0 v) 50 0 0) 1001 0 = v := rfl
    have m5 : (u2 (u2 M 1001 0 v) 50 0 0) 50 0 = 0 := rfl
    rw [KK_ret]
    refine bL_law_1625 ⟨by decide, q0 r2 m1, x_thrown r2 m1 ?_⟩
    rw [KK_ret, m5]
    refine bL_law_1631 ⟨fun _ => ⟨fun w => absurd rfl w, fun _ => ⟨qK_c253 r2 m1 m2, inA_1 (qL_c253 r2 m1 m2), fun _ => ?_, fun w => absurd ?_ w⟩⟩, fun w => absurd rfl w⟩
    · exact go_on go r2 (fun _ _ _ _ => rfl) m1 m2 (hI.at.up) (by omega) (by omega)
    · have eo := qAL_c253 r2 m1 m2
      rw [show ((0 : Int32)).toNatClampNeg = 0 from rfl, eo, m3]
      have ev2 : actV (u2 M 1001 0 v) p' j' = v := ev
      rw [ev2]
      exact lg_eq _
  · refine KK_hdl rfl rfl rfl (bL_act_15 ?_)
    rw [KK_ret]
    refine bL_law_1607 ⟨(rc_scr r).1, ix_in (k := 1) r hLL (by omega), ix_in (k := 2) r hLL (by omega), by decide, q0 r hM, ?_⟩
    have ea0 := (ix_at (i := i) (k := 1) r hLL (by omega)).trans hx0
    have ea1 := (ix_at (i := i) (k := 2) r hLL (by omega)).trans hx1
    rw [show Int32.ofNat (5 * i) + (1 : Int32) = Int32.ofNat (5 * i) + Int32.ofNat 1 from rfl, ea0, show Int32.ofNat (5 * i) + (2 : Int32) = Int32.ofNat (5 * i) + Int32.ofNat 2 from rfl, ea1]
    refine x_act r hM ha ha14 (fun _ h2 r2 => ?_) (fun w => absurd w q) (fun p j q1 q2 => absurd ⟨by rw [q1, o_i _ (by omega)]; omega, by rw [q1, o_i _ (by omega)]; omega⟩ q)
    rw [KK_ret]
    refine bL_law_1625 ⟨by decide, q0 r2 hM, x_thrown r2 hM ?_⟩
    rw [KK_ret]
    refine bL_law_1631 ⟨fun _ => ⟨fun _ => ?_, fun w => absurd (by decide) w⟩, fun w => absurd rfl w⟩
    exact go_on go r2 (fun s k h1 h2 => by unfold sAt; rw [u2_ne (by omega), u2_ne (by omega), u2_ne (by omega)]) hM hM2 (hI.cg (fun s k q => by rw [u2_ne (by omega)])).up (by omega) (by omega)
  · refine KK_hdl rfl rfl rfl (bL_act_19 ?_)
    rw [KK_ret]
    refine bL_law_1607 ⟨(rc_scr r).1, ix_in (k := 1) r hLL (by omega), ix_in (k := 2) r hLL (by omega), by decide, q0 r hM, ?_⟩
    have ea0 := (ix_at (i := i) (k := 1) r hLL (by omega)).trans hx0
    have ea1 := (ix_at (i := i) (k := 2) r hLL (by omega)).trans hx1
    rw [show Int32.ofNat (5 * i) + (1 : Int32) = Int32.ofNat (5 * i) + Int32.ofNat 1 from rfl, ea0, show Int32.ofNat (5 * i) + (2 : Int32) = Int32.ofNat (5 * i) + Int32.ofNat 2 from rfl, ea1]
    refine x_act r hM ha ha14 (fun w => absurd q w) (fun _ _ h2 r2 => ?_) (fun p j q1 q2 q3 q4 => absurd ⟨by rw [q3, o_i _ (by omega)]; omega, by rw [q3, o_i _ (by omega)]; omega⟩ q5)
    rw [KK_ret]
    refine bL_law_1625 ⟨by decide, q0 r2 hM, x_thrown r2 hM ?_⟩
    rw [KK_ret]
    refine bL_law_1631 ⟨fun _ => ⟨fun _ => ?_, fun w => absurd (by decide) w⟩, fun w => absurd rfl w⟩
    exact go_on go r2 (fun s k h1 h2 => by unfold sAt; rw [u2_ne (by omega), u2_ne (by omega), u2_ne (by omega)]) hM hM2 (hI.cg (fun s k q => by rw [u2_ne (by omega)])).up (by omega) (by omega)
theorem op_decision (hL : LI L xs Z0 i h) (hi : i < 512) (hin : 5 * i + 5 ≤ L) (hLL : L ≤ 2560) (go : GO L xs Z0 60 (i + 1) Q) {x : Int32} (hx0 : xs (5 * i + 1) = x) {y : Int32} (hx1 : xs (5 * i + 2) = y) {z : Int32} (hx2 : xs (5 * i + 3) = z) : WP 59 mL_decision 0 [some (.ref 2), some (.int x), some (.int y), some (.int z), some (.ref 253), none] [] h (KK 59 mL_law mL_decision 1517 (lwL i u6 u7) [] Q) := by
  obtain ⟨e1, e3, M, G, C, Z, n, na, g, pa, pv, hr, hM, hM2, hI, hC, hZ⟩ := hL
  have hn := hI.1.1
  have hn35 := hI.1.2.1
  have hn5 : n ≤ 5 := by omega
  obtain ⟨v, hv⟩ := WP_pick (d := 58) (y := mX11_decision) (pc := 0) (lo := [some (.ref 2), some (.int x), some (.int y), some (.int z), none]) (stk := []) (h := h) oI 0 oI_inj (P := fun v o h' => (∃ m j l, x = Int32.ofNat m ∧ m < n ∧ y = Int32.ofNat j ∧ j < 4 ∧ z = Int32.ofNat l ∧ l ≤ 3 ∧ o = oI (sAt M v (27 + l) (4 * m + j)) ∧ ∃ e1' e3', RC (sAt M v) G (e1', 0, e3') (M, G, C, Z, L, xs) h') ∨ ((¬ ((0 ≤ x.toInt ∧ x.toInt < n) ∧ (0 ≤ y.toInt ∧ y.toInt < 4))) ∧ o = .inr 3 ∧ RC (sAt M v) G (e1, 0, e3) (M, G, C + 1, Z + 6, L, xs) h') ∨ ((((0 ≤ x.toInt ∧ x.toInt < n) ∧ (0 ≤ y.toInt ∧ y.toInt < 4)) ∧ ¬ (0 ≤ z.toInt ∧ z.toInt ≤ 3)) ∧ o = .inr 1 ∧ RC (sAt M v) G (e1, 0, e3) (M, G, C + 1, Z + 6, L, xs) h')) (fun v => c_decision (rc_at hr) hn hn5 (fun q => Or.inr (Or.inl ⟨q, rfl, rc_thr (rc_at hr)⟩)) (fun q q2 => Or.inr (Or.inr ⟨⟨q, q2⟩, rfl, rc_thr (rc_at hr)⟩)) (fun p j l q1 q2 q3 q4 q5 q6 => Or.inl ⟨p, j, l, q1, q2, q3, q4, q5, q6, rfl, e1, e3, rc_at hr⟩))
  refine bL_decision_0 ⟨by decide, st_K_2 (rcS hr), hv.mono ?_⟩
  rintro o h' ⟨(⟨p, j, l, q1, q2, q3, q4, q5, q6, rfl, e1', e3', r⟩ | ⟨q, rfl, r⟩ | ⟨⟨q, q5⟩, rfl, r⟩), hx'⟩
  · have _ := hI
    have ev := hx' _ rfl
    unfold oI
    rw [KK_ret]
    refine bL_decision_10 ⟨qK_c253 r hM hM2, inA_1 (qL_c253 r hM hM2), ?_⟩
    rw [ev, show (0 : Int32).toNatClampNeg = 0 from rfl, KK_ret]
    have r1 := rc_outL r v
    refine bL_law_1520 ⟨(rc_scr r1).1, ix_in (k := 1) r1 hLL (by omega), ix_in (k := 2) r1 hLL (by omega), ix_in (k := 3) r1 hLL (by omega), by decide, q0 r1 hM, ?_⟩
    have ea0 := (ix_at (i := i) (k := 1) r1 hLL (by omega)).trans hx0
    have ea1 := (ix_at (i := i) (k := 2) r1 hLL (by omega)).trans hx1
    have ea2 := (ix_at (i := i) (k := 3) r1 hLL (by omega)).trans hx2
    rw [show Int32.ofNat (5 * i) + (1 : Int32) = Int32.ofNat (5 * i) + Int32.ofNat 1 from rfl, ea0, show Int32.ofNat (5 * i) + (2 : Int32) = Int32.ofNat (5 * i) + Int32.ofNat 2 from rfl, ea1, show Int32.ofNat (5 * i) + (3 : Int32) = Int32.ofNat (5 * i) + Int32.ofNat 3 from rfl, ea2]
    refine x_decision r1 hM hn hn35 (fun w => absurd ⟨⟨by rw [q1, o_i _ (by omega)]; omega, by rw [q1, o_i _ (by omega)]; omega⟩, ⟨by rw [q3, o_i _ (by omega)]; omega, by rw [q3, o_i _ (by omega)]; omega⟩⟩ w) (fun _ w => absurd ⟨by rw [q5, o_i _ (by omega)]; omega, by rw [q5, o_i _ (by omega)]; omega⟩ w) (fun p' j' l' q1' q2' q3' q4' q5' q6' h2 r2 => ?_)
    have ep : p' = p := o_inj (q1'.symm.trans q1) (by omega) (by omega)
    subst ep
    have ej : j' = j := o_inj (q3'.symm.trans q3) (by omega) (by omega)
    subst ej
    have el : l' = l := o_inj (q5'.symm.trans q5) (by omega) (by omega)
    subst el
    have m1 : (u2 (u2 M 1001 0 v) 50 0 0) 1000 0 = 0 := hM
    have m2 : (u2 (u2 M 1001 0 v) 50 0 0) 1002 0 = 0 := hM2
    have m3 : (u2 (u2 M 1001 0 v) 50 0 0) 1001 0 = v := rfl
    have m5 : (u2 (u2 M 1001 0 v) 50 0 0) 50 0 = 0 := rfl
    rw [KK_ret]
    refine bL_law_1544 ⟨by decide, q0 r2 m1, x_thrown r2 m1 ?_⟩
    rw [KK_ret, m5]
    refine bL_law_1550 ⟨fun _ => ⟨fun w => absurd rfl w, fun _ => ⟨qK_c253 r2 m1 m2, inA_1 (qL_c253 r2 m1 m2), fun _ => ?_, fun w => absurd ?_ w⟩⟩, fun w => absurd rfl w⟩
    · exact go_on go r2 (fun _ _ _ _ => rfl) m1 m2 (hI.at.up) (by omega) (by omega)
    · have eo := qAL_c253 r2 m1 m2
      rw [show ((0 : Int32)).toNatClampNeg = 0 from rfl, eo, m3]
      have ev2 : (u2 M 1001 0 v) (27 + l') (4 * p' + j') = v := by
        have e9 := ev
        unfold sAt at e9
        rw [u2_ne (by omega)] at e9
        exact e9
      rw [ev2]
      exact lg_eq _
  · refine KK_hdl rfl rfl rfl (bL_decision_17 ?_)
    rw [KK_ret]
    refine bL_law_1520 ⟨(rc_scr r).1, ix_in (k := 1) r hLL (by omega), ix_in (k := 2) r hLL (by omega), ix_in (k := 3) r hLL (by omega), by decide, q0 r hM, ?_⟩
    have ea0 := (ix_at (i := i) (k := 1) r hLL (by omega)).trans hx0
    have ea1 := (ix_at (i := i) (k := 2) r hLL (by omega)).trans hx1
    have ea2 := (ix_at (i := i) (k := 3) r hLL (by omega)).trans hx2
    rw [show Int32.ofNat (5 * i) + (1 : Int32) = Int32.ofNat (5 * i) + Int32.ofNat 1 from rfl, ea0, show Int32.ofNat (5 * i) + (2 : Int32) = Int32.ofNat (5 * i) + Int32.ofNat 2 from rfl, ea1, show Int32.ofNat (5 * i) + (3 : Int32) = Int32.ofNat (5 * i) + Int32.ofNat 3 from rfl, ea2]
    refine x_decision r hM hn hn35 (fun _ h2 r2 => ?_) (fun w => absurd w q) (fun p j l q1 q2 q3 q4 => absurd ⟨⟨by rw [q1, o_i _ (by omega)]; omega, by rw [q1, o_i _ (by omega)]; omega⟩, ⟨by rw [q3, o_i _ (by omega)]; omega, by rw [q3, o_i _ (by omega)]; omega⟩⟩ q)
    rw [KK_ret]
    refine bL_law_1544 ⟨by decide, q0 r2 hM, x_thrown r2 hM ?_⟩
    rw [KK_ret]
    refine bL_law_1550 ⟨fun _ => ⟨fun _ => ?_, fun w => absurd (by decide) w⟩, fun w => absurd rfl w⟩
    exact go_on go r2 (fun s k h1 h2 => by unfold sAt; rw [u2_ne (by omega), u2_ne (by omega), u2_ne (by omega)]) hM hM2 (hI.cg (fun s k q => by rw [u2_ne (by omega)])).up (by omega) (by omega)
  · refine KK_hdl rfl rfl rfl (bL_decision_21 ?_)
    rw [KK_ret]
    refine bL_law_1520 ⟨(rc_scr r).1, ix_in (k := 1) r hLL (by omega), ix_in (k := 2) r hLL (by omega), ix_in (k := 3) r hLL (by omega), by decide, q0 r hM, ?_⟩
    have ea0 := (ix_at (i := i) (k := 1) r hLL (by omega)).trans hx0
    have ea1 := (ix_at (i := i) (k := 2) r hLL (by omega)).trans hx1
    have ea2 := (ix_at (i := i) (k := 3) r hLL (by omega)).trans hx2
    rw [show Int32.ofNat (5 * i) + (1 : Int32) = Int32.ofNat (5 * i) + Int32.ofNat 1 from rfl, ea0, show Int32.ofNat (5 * i) + (2 : Int32) = Int32.ofNat (5 * i) + Int32.ofNat 2 from rfl, ea1, show Int32.ofNat (5 * i) + (3 : Int32) = Int32.ofNat (5 * i) + Int32.ofNat 3 from rfl, ea2]
    refine x_decision r hM hn hn35 (fun w => absurd q w) (fun _ _ h2 r2 => ?_) (fun p j l q1 q2 q3 q4 q6 q7 => absurd ⟨by rw [q6, o_i _ (by omega)]; omega, by rw [q6, o_i _ (by omega)]; omega⟩ q5)
    rw [KK_ret]
    refine bL_law_1544 ⟨by decide, q0 r2 hM, x_thrown r2 hM ?_⟩
    rw [KK_ret]
    refine bL_law_1550 ⟨fun _ => ⟨fun _ => ?_, fun w => absurd (by decide) w⟩, fun w => absurd rfl w⟩
    exact go_on go r2 (fun s k h1 h2 => by unfold sAt; rw [u2_ne (by omega), u2_ne (by omega), u2_ne (by omega)]) hM hM2 (hI.cg (fun s k q => by rw [u2_ne (by omega)])).up (by omega) (by omega)
theorem op_entry (hL : LI L xs Z0 i h) (hi : i < 512) (hin : 5 * i + 5 ≤ L) (hLL : L ≤ 2560) (go : GO L xs Z0 60 (i + 1) Q) {x : Int32} (hx0 : xs (5 * i + 1) = x) {y : Int32} (hx1 : xs (5 * i + 2) = y) {z : Int32} (hx2 : xs (5 * i + 3) = z) : WP 59 mL_entry 0 [some (.ref 2), some (.int x), some (.int y), some (.int z), some (.ref 253), none] [] h (KK 59 mL_law mL_entry 1268 (lwL i u6 u7) [] Q) := by
  obtain ⟨e1, e3, M, G, C, Z, n, na, g, pa, pv, hr, hM, hM2, hI, hC, hZ⟩ := hL
  have hn := hI.1.1
  have hn35 := hI.1.2.1
  have hn5 : n ≤ 5 := by omega
  have hlc : ∀ m, m < n → ∃ l c, M 12 m = Int32.ofNat l ∧ l ≤ 30 ∧ M 13 m = Int32.ofNat c ∧ c ≤ l := fun m hm => by
    obtain ⟨l, b1, b2, c, b3, b4⟩ := (hI.2.1 m (by omega)).1
    exact ⟨l, c, b1, b2, b3, b4⟩
  have hci : ∀ m, m < n → ∃ ci, M 13 m = Int32.ofNat ci ∧ ci ≤ 30 := fun m hm => by
    obtain ⟨l, c, b1, b2, b3, b4⟩ := hlc m hm
    exact ⟨c, b3, by omega⟩
  have hln : ∀ m, m < n → ∃ l, M 12 m = Int32.ofNat l ∧ l ≤ 30 := fun m hm => inv_lens hI m (by omega)
  obtain ⟨v, hv⟩ := WP_pick (d := 58) (y := mX11_entry) (pc := 0) (lo := [some (.ref 2), some (.int x), some (.int y), some (.int z), none]) (stk := []) (h := h) oI 0 oI_inj (P := fun v o h' => (∃ m j l, x = Int32.ofNat m ∧ m < n ∧ y = Int32.ofNat (j + 1) ∧ (j : Int) < (M 12 m).toInt ∧ z = Int32.ofNat l ∧ l ≤ 3 ∧ o = oI (sAt M v (14 + l) (30 * m + j)) ∧ ∃ e1' e3', RC (sAt M v) G (e1', 0, e3') (M, G, C, Z, L, xs) h') ∨ (((∀ m, x = Int32.ofNat m → m < n → ¬ (1 ≤ y.toInt ∧ y.toInt ≤ (M 12 m).toInt))) ∧ o = .inr 3 ∧ RC (sAt M v) G (e1, 0, e3) (M, G, C + 1, Z + 6, L, xs) h') ∨ (((∃ m, x = Int32.ofNat m ∧ m < n ∧ (1 ≤ y.toInt ∧ y.toInt ≤ (M 12 m).toInt) ∧ ¬ (0 ≤ z.toInt ∧ z.toInt ≤ 3))) ∧ o = .inr 1 ∧ RC (sAt M v) G (e1, 0, e3) (M, G, C + 1, Z + 6, L, xs) h')) (fun v => c_entry (rc_at hr) hn hn5 hln (fun q => Or.inr (Or.inl ⟨q, rfl, rc_thr (rc_at hr)⟩)) (fun m w1 w2 q q2 => Or.inr (Or.inr ⟨⟨m, w1, w2, q, q2⟩, rfl, rc_thr (rc_at hr)⟩)) (fun p j l q1 q2 q3 q4 q5 q6 => Or.inl ⟨p, j, l, q1, q2, q3, q4, q5, q6, rfl, e1, e3, rc_at hr⟩))
  refine bL_entry_0 ⟨by decide, st_K_2 (rcS hr), hv.mono ?_⟩
  rintro o h' ⟨(⟨p, j, l, q1, q2, q3, q4, q5, q6, rfl, e1', e3', r⟩ | ⟨q, rfl, r⟩ | ⟨⟨m, w1, w2, q, q5⟩, rfl, r⟩), hx'⟩
  · obtain ⟨l0, b1, b2⟩ := hln p q2
    have q4i := q4
    rw [b1, o_i _ (by omega)] at q4i
    have yi : y.toInt = j + 1 := by rw [q3, o_i _ (by omega)]; omega
    have ev := hx' _ rfl
    unfold oI
    rw [KK_ret]
    refine bL_entry_10 ⟨qK_c253 r hM hM2, inA_1 (qL_c253 r hM hM2), ?_⟩
    rw [ev, show (0 : Int32).toNatClampNeg = 0 from rfl, KK_ret]
    have r1 := rc_outL r v
    refine bL_law_1271 ⟨(rc_scr r1).1, ix_in (k := 1) r1 hLL (by omega), ix_in (k := 2) r1 hLL (by omega), ix_in (k := 3) r1 hLL (by omega), by decide, q0 r1 hM, ?_⟩
    have ea0 := (ix_at (i := i) (k := 1) r1 hLL (by omega)).trans hx0
    have ea1 := (ix_at (i := i) (k := 2) r1 hLL (by omega)).trans hx1
    have ea2 := (ix_at (i := i) (k := 3) r1 hLL (by omega)).trans hx2
    rw [show Int32.ofNat (5 * i) + (1 : Int32) = Int32.ofNat (5 * i) + Int32.ofNat 1 from rfl, ea0, show Int32.ofNat (5 * i) + (2 : Int32) = Int32.ofNat (5 * i) + Int32.ofNat 2 from rfl, ea1, show Int32.ofNat (5 * i) + (3 : Int32) = Int32.ofNat (5 * i) + Int32.ofNat 3 from rfl, ea2]
    refine x_entry r1 hM hn hn35 hln (fun w => absurd (by
        show 1 ≤ y.toInt ∧ y.toInt ≤ (M 12 p).toInt
        omega) (w p q1 q2)) (fun _ _ _ _ w => absurd ⟨by rw [q5, o_i _ (by omega)]; omega, by rw [q5, o_i _ (by omega)]; omega⟩ w) (fun p' j' l' q1' q2' q3' q4' q5' q6' h2 r2 => ?_)
    have ep : p' = p := o_inj (q1'.symm.trans q1) (by omega) (by omega)
    subst ep
    have q4j : (j' : Int) < (M 12 p').toInt := q4'
    rw [b1, o_i _ (by omega)] at q4j
    have ej : j' + 1 = j + 1 := o_inj (q3'.symm.trans q3) (by omega) (by omega)
    obtain rfl : j' = j := by omega
    have el : l' = l := o_inj (q5'.symm.trans q5) (by omega) (by omega)
    subst el
    have m1 : (u2 (u2 M 1001 0 v) 50 0 0) 1000 0 = 0 := hM
    have m2 : (u2 (u2 M 1001 0 v) 50 0 0) 1002 0 = 0 := hM2
    have m3 : (u2 (u2 M 1001 0 v) 50 0 0) 1001 0 = v := rfl
    have m5 : (u2 (u2 M 1001 0 v) 50 0 0) 50 0 = 0 := rfl
    rw [KK_ret]
    refine bL_law_1295 ⟨by decide, q0 r2 m1, x_thrown r2 m1 ?_⟩
    rw [KK_ret, m5]
    refine bL_law_1301 ⟨fun _ => ⟨fun w => absurd rfl w, fun _ => ⟨qK_c253 r2 m1 m2, inA_1 (qL_c253 r2 m1 m2), fun _ => ?_, fun w => absurd ?_ w⟩⟩, fun w => absurd rfl w⟩
    · exact go_on go r2 (fun _ _ _ _ => rfl) m1 m2 (hI.at.up) (by omega) (by omega)
    · have eo := qAL_c253 r2 m1 m2
      rw [show ((0 : Int32)).toNatClampNeg = 0 from rfl, eo, m3]
      have ev2 : (u2 M 1001 0 v) (14 + l') (30 * p' + j') = v := by
        have e9 := ev
        unfold sAt at e9
        rw [u2_ne (by omega)] at e9
        exact e9
      rw [ev2]
      exact lg_eq _
  · refine KK_hdl rfl rfl rfl (bL_entry_17 ?_)
    rw [KK_ret]
    refine bL_law_1271 ⟨(rc_scr r).1, ix_in (k := 1) r hLL (by omega), ix_in (k := 2) r hLL (by omega), ix_in (k := 3) r hLL (by omega), by decide, q0 r hM, ?_⟩
    have ea0 := (ix_at (i := i) (k := 1) r hLL (by omega)).trans hx0
    have ea1 := (ix_at (i := i) (k := 2) r hLL (by omega)).trans hx1
    have ea2 := (ix_at (i := i) (k := 3) r hLL (by omega)).trans hx2
    rw [show Int32.ofNat (5 * i) + (1 : Int32) = Int32.ofNat (5 * i) + Int32.ofNat 1 from rfl, ea0, show Int32.ofNat (5 * i) + (2 : Int32) = Int32.ofNat (5 * i) + Int32.ofNat 2 from rfl, ea1, show Int32.ofNat (5 * i) + (3 : Int32) = Int32.ofNat (5 * i) + Int32.ofNat 3 from rfl, ea2]
    refine x_entry r hM hn hn35 hln (fun _ h2 r2 => ?_) (fun m w1 w2 w => absurd w (q m w1 w2)) (fun p j l q1 q2 q3 q4 => absurd (by
        obtain ⟨l0, b1, b2⟩ := hln p q2
        have q4' : (j : Int) < (M 12 p).toInt := q4
        rw [b1, o_i _ (by omega)] at q4' ⊢
        rw [q3, o_i _ (by omega)]
        omega) (q p q1 q2))
    rw [KK_ret]
    refine bL_law_1295 ⟨by decide, q0 r2 hM, x_thrown r2 hM ?_⟩
    rw [KK_ret]
    refine bL_law_1301 ⟨fun _ => ⟨fun _ => ?_, fun w => absurd (by decide) w⟩, fun w => absurd rfl w⟩
    exact go_on go r2 (fun s k h1 h2 => by unfold sAt; rw [u2_ne (by omega), u2_ne (by omega), u2_ne (by omega)]) hM hM2 (hI.cg (fun s k q => by rw [u2_ne (by omega)])).up (by omega) (by omega)
  · refine KK_hdl rfl rfl rfl (bL_entry_21 ?_)
    rw [KK_ret]
    refine bL_law_1271 ⟨(rc_scr r).1, ix_in (k := 1) r hLL (by omega), ix_in (k := 2) r hLL (by omega), ix_in (k := 3) r hLL (by omega), by decide, q0 r hM, ?_⟩
    have ea0 := (ix_at (i := i) (k := 1) r hLL (by omega)).trans hx0
    have ea1 := (ix_at (i := i) (k := 2) r hLL (by omega)).trans hx1
    have ea2 := (ix_at (i := i) (k := 3) r hLL (by omega)).trans hx2
    rw [show Int32.ofNat (5 * i) + (1 : Int32) = Int32.ofNat (5 * i) + Int32.ofNat 1 from rfl, ea0, show Int32.ofNat (5 * i) + (2 : Int32) = Int32.ofNat (5 * i) + Int32.ofNat 2 from rfl, ea1, show Int32.ofNat (5 * i) + (3 : Int32) = Int32.ofNat (5 * i) + Int32.ofNat 3 from rfl, ea2]
    refine x_entry r hM hn hn35 hln (fun w => absurd q (w m w1 w2)) (fun _ _ _ _ _ h2 r2 => ?_) (fun p j l q1 q2 q3 q4 q6 q7 => absurd ⟨by rw [q6, o_i _ (by omega)]; omega, by rw [q6, o_i _ (by omega)]; omega⟩ q5)
    rw [KK_ret]
    refine bL_law_1295 ⟨by decide, q0 r2 hM, x_thrown r2 hM ?_⟩
    rw [KK_ret]
    refine bL_law_1301 ⟨fun _ => ⟨fun _ => ?_, fun w => absurd (by decide) w⟩, fun w => absurd rfl w⟩
    exact go_on go r2 (fun s k h1 h2 => by unfold sAt; rw [u2_ne (by omega), u2_ne (by omega), u2_ne (by omega)]) hM hM2 (hI.cg (fun s k q => by rw [u2_ne (by omega)])).up (by omega) (by omega)
end LAWD8
