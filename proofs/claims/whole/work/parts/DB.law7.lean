/-! ===== the law: read, request ===== -/
section LAWDB
variable {h h' : HP} {Q : Out → HP → Prop} {S : SI} {F : SF} {e : EX} {M : SI} {G : SF} {C Z L Z0 i n na st : Nat} {xs : Nat → Int32} {g : YG} {pa : Nat → ZA} {pv : Nat → ZV} {e1 : Int32} {e3 : RW × UInt32} {u6 u7 : Option Value}
theorem rdR (hI : INV st n na g pa pv M G) {m : Nat} (hm : m < n) : readB M G m na ↔ readR M G m na := by
  have hn := hI.1.2.1
  have c1 := (hI.2.1 m (by omega)).2.2.2.2
  unfold readB readR holB
  constructor
  · rintro ⟨a, ⟨b, c⟩, d, e⟩
    refine ⟨?_, d.1, d.2, e⟩
    have r2 := c1.2.1 b
    rw [c, r2, b]
    simp [a]
  · rintro ⟨a, d1, d2, e⟩
    simp only [Bool.and_eq_true, Bool.not_eq_true', decide_eq_true_eq, decide_eq_false_iff_not] at a
    exact ⟨a.1.1.1, ⟨c1.1.resolve_left a.1.2, a.2⟩, ⟨d1, d2⟩, e⟩
theorem op_read (hL : LI L xs Z0 i h) (hi : i < 512) (hin : 5 * i + 5 ≤ L) (hLL : L ≤ 2560) (go : GO L xs Z0 60 (i + 1) Q) {x : Int32} (hx0 : xs (5 * i + 1) = x) : WP 59 mL_read 0 [some (.ref 2), some (.int x), some (.ref 253), none] [] h (KK 59 mL_law mL_read 958 (lwL i u6 u7) [] Q) := by
  obtain ⟨e1, e3, M, G, C, Z, n, na, g, pa, pv, hr, hM, hM2, hI, hC, hZ⟩ := hL
  have hn := hI.1.1
  have hn35 := hI.1.2.1
  have hn5 : n ≤ 5 := by omega
  have hlc : ∀ m, m < n → ∃ l c, M 12 m = Int32.ofNat l ∧ l ≤ 30 ∧ M 13 m = Int32.ofNat c ∧ c ≤ l := fun m hm => by
    obtain ⟨l, b1, b2, c, b3, b4⟩ := (hI.2.1 m (by omega)).1
    exact ⟨l, c, b1, b2, b3, b4⟩
  have hci : ∀ m, m < n → ∃ ci, M 13 m = Int32.ofNat ci ∧ ci ≤ 30 := fun m hm => by
    obtain ⟨l, c, b1, b2, b3, b4⟩ := hlc m hm
    exact ⟨c, b3, by omega⟩
  have hln : ∀ m, m < n → ∃ l, M 12 m = Int32.ofNat l ∧ l ≤ 30 := fun m hm => inv_lens hI m (by omega)
  have h231 : ∀ m, m < n → M 23 m = 0 ∨ M 23 m = 1 := fun m hm => (hI.2.1 m (by omega)).2.2.2.2.1
  have ha := hI.1.2.2.1
  have ha14 := hI.2.2.2.2.2.2.2.1.1.1
  obtain ⟨v, hv⟩ := WP_pick (d := 58) (y := mX11_read) (pc := 0) (lo := [some (.ref 2), some (.int x), none, none]) (stk := []) (h := h) oI 0 oI_inj (P := fun v o h' => (∃ m, x = Int32.ofNat m ∧ m < n ∧ readB M G m na ∧ o = oI (valU (sAt M v) m (nt (sAt M v 13 m))) ∧ ∃ e1' e3', RC (readS (stepS (sAt M v)) m) (G) (e1', 0, e3') (M, G, C, Z, L, xs) h') ∨ ((¬ (0 ≤ x.toInt ∧ x.toInt < n)) ∧ o = .inr 3 ∧ RC (sAt M v) G (e1, 0, e3) (M, G, C + 1, Z + 6, L, xs) h') ∨ ((∃ m, x = Int32.ofNat m ∧ m < n ∧ ¬ readB M G m na) ∧ o = .inr 2 ∧ RC (sAt M v) G (e1, 0, e3) (M, G, C + 1, Z + 6, L, xs) h')) (fun v => c_read (rc_at hr) hn hn5 ha ha14 hlc h231 (fun q h' r => Or.inr (Or.inl ⟨q, rfl, r⟩)) (fun m q1 q2 q3 h' r => Or.inr (Or.inr ⟨⟨m, q1, q2, q3⟩, rfl, r⟩)) (fun p q1 q2 q3 h' r => Or.inl ⟨p, q1, q2, q3, rfl, e1, e3, r⟩))
  refine bL_read_0 ⟨by decide, st_K_2 (rcS hr), hv.mono ?_⟩
  rintro o h' ⟨(⟨p, q1, q2, q3, rfl, e1', e3', r⟩ | ⟨q, rfl, r⟩ | ⟨⟨m, q1, q2, q3⟩, rfl, r⟩), hx'⟩
  · have _ := hI
    have ev := hx' _ rfl
    unfold oI
    rw [KK_ret]
    refine bL_read_7 ⟨qK_c253 r hM hM2, inA_1 (qL_c253 r hM hM2), ?_⟩
    rw [ev, show (0 : Int32).toNatClampNeg = 0 from rfl, KK_ret]
    have r1 := rc_outL r v
    refine bL_law_961 ⟨(rc_scr r1).1, ix_in (k := 1) r1 hLL (by omega), by decide, q0 r1 hM, ?_⟩
    have ea0 := (ix_at (i := i) (k := 1) r1 hLL (by omega)).trans hx0
    rw [show Int32.ofNat (5 * i) + (1 : Int32) = Int32.ofNat (5 * i) + Int32.ofNat 1 from rfl, ea0]
    refine x_read r1 hM hn hn35 hlc hI.endh (fun w => absurd ⟨by rw [q1, o_i _ (by omega)]; omega, by rw [q1, o_i _ (by omega)]; omega⟩ w) (fun m' a1 a2 a3 => absurd (by
        have e9 := o_inj (a1.symm.trans q1) (by omega) (by omega)
        subst e9
        exact ((rdR hI q2).mp q3)) a3) (fun p' q1' q2' q3' h2 r2 => ?_)
    have ep : p' = p := o_inj (q1'.symm.trans q1) (by omega) (by omega)
    subst ep
    have iv := inv_read (by omega) (hI.at (v := v)) q3.2.2.2 (m := p')
    unfold sAt at iv
    rw [iv.noop] at r2
    have m1 : (readS (stepS (u2 (u2 M 1001 0 v) 50 0 0)) p') 1000 0 = 0 := (hi_acts (by decide)).trans hM
    have m2 : (readS (stepS (u2 (u2 M 1001 0 v) 50 0 0)) p') 1002 0 = 0 := (hi_acts (by decide)).trans hM2
    have m3 : (readS (stepS (u2 (u2 M 1001 0 v) 50 0 0)) p') 1001 0 = v := (hi_acts (by decide)).trans rfl
    have m5 : (readS (stepS (u2 (u2 M 1001 0 v) 50 0 0)) p') 50 0 = 0 := (hi_acts (by decide)).trans rfl
    rw [KK_ret]
    refine bL_law_973 ⟨by decide, q0 r2 m1, x_thrown r2 m1 ?_⟩
    rw [KK_ret, m5]
    refine bL_law_979 ⟨fun _ => ⟨fun w => absurd rfl w, fun _ => ⟨qK_c253 r2 m1 m2, inA_1 (qL_c253 r2 m1 m2), fun _ => ?_, fun w => absurd ?_ w⟩⟩, fun w => absurd rfl w⟩
    · exact go_on go r2 (fun _ _ _ _ => rfl) m1 m2 (iv) (by omega) (by omega)
    · have eo := qAL_c253 r2 m1 m2
      rw [show ((0 : Int32)).toNatClampNeg = 0 from rfl, eo, m3]
      have ev2 : valU (u2 M 1001 0 v) p' (nt ((u2 M 1001 0 v) 13 p')) = v := (valU_congr (S := sAt M v) (S' := u2 M 1001 0 v) rfl rfl rfl p' (nt (M 13 p'))).trans ev
      rw [ev2]
      exact lg_eq _
  · refine KK_hdl rfl rfl rfl (bL_read_13 ?_)
    rw [KK_ret]
    refine bL_law_961 ⟨(rc_scr r).1, ix_in (k := 1) r hLL (by omega), by decide, q0 r hM, ?_⟩
    have ea0 := (ix_at (i := i) (k := 1) r hLL (by omega)).trans hx0
    rw [show Int32.ofNat (5 * i) + (1 : Int32) = Int32.ofNat (5 * i) + Int32.ofNat 1 from rfl, ea0]
    refine x_read r hM hn hn35 hlc hI.endh (fun _ h2 r2 => ?_) (fun p q1 q2 => absurd ⟨by rw [q1, o_i _ (by omega)]; omega, by rw [q1, o_i _ (by omega)]; omega⟩ q) (fun p q1 q2 => absurd ⟨by rw [q1, o_i _ (by omega)]; omega, by rw [q1, o_i _ (by omega)]; omega⟩ q)
    rw [KK_ret]
    refine bL_law_973 ⟨by decide, q0 r2 hM, x_thrown r2 hM ?_⟩
    rw [KK_ret]
    refine bL_law_979 ⟨fun _ => ⟨fun _ => ?_, fun w => absurd (by decide) w⟩, fun w => absurd rfl w⟩
    exact go_on go r2 (fun s k h1 h2 => by unfold sAt; rw [u2_ne (by omega), u2_ne (by omega), u2_ne (by omega)]) hM hM2 (hI.cg (fun s k q => by rw [u2_ne (by omega)])).up (by omega) (by omega)
  · refine KK_hdl rfl rfl rfl (bL_read_16 ?_)
    rw [KK_ret]
    refine bL_law_961 ⟨(rc_scr r).1, ix_in (k := 1) r hLL (by omega), by decide, q0 r hM, ?_⟩
    have ea0 := (ix_at (i := i) (k := 1) r hLL (by omega)).trans hx0
    rw [show Int32.ofNat (5 * i) + (1 : Int32) = Int32.ofNat (5 * i) + Int32.ofNat 1 from rfl, ea0]
    refine x_read r hM hn hn35 hlc hI.endh (fun w => absurd ⟨by rw [q1, o_i _ (by omega)]; omega, by rw [q1, o_i _ (by omega)]; omega⟩ w) (fun _ _ _ _ h2 r2 => ?_) (fun m' a1 a2 a3 => absurd a3 (by
        have e9 := o_inj (a1.symm.trans q1) (by omega) (by omega)
        subst e9
        exact fun w9 => q3 ((rdR hI q2).mpr w9)))
    rw [KK_ret]
    refine bL_law_973 ⟨by decide, q0 r2 hM, x_thrown r2 hM ?_⟩
    rw [KK_ret]
    refine bL_law_979 ⟨fun _ => ⟨fun _ => ?_, fun w => absurd (by decide) w⟩, fun w => absurd rfl w⟩
    exact go_on go r2 (fun s k h1 h2 => by unfold sAt; rw [u2_ne (by omega), u2_ne (by omega), u2_ne (by omega)]) hM hM2 (hI.cg (fun s k q => by rw [u2_ne (by omega)])).up (by omega) (by omega)
theorem op_request (hL : LI L xs Z0 i h) (hi : i < 512) (hin : 5 * i + 5 ≤ L) (hLL : L ≤ 2560) (go : GO L xs Z0 60 (i + 1) Q) {x : Int32} (hx0 : xs (5 * i + 1) = x) {y : Int32} (hx1 : xs (5 * i + 2) = y) {z : Int32} (hx2 : xs (5 * i + 3) = z) {b4 : Int32} (hx3 : xs (5 * i + 4) = b4) : WP 59 mL_request 0 [some (.ref 2), some (.int x), some (.int y), some (.int z), some (.int b4), some (.ref 253), none] [] h (KK 59 mL_law mL_request 884 (lwL i u6 u7) [] Q) := by
  obtain ⟨e1, e3, M, G, C, Z, n, na, g, pa, pv, hr, hM, hM2, hI, hC, hZ⟩ := hL
  have hn := hI.1.1
  have hn35 := hI.1.2.1
  have hn5 : n ≤ 5 := by omega
  have hlc : ∀ m, m < n → ∃ l c, M 12 m = Int32.ofNat l ∧ l ≤ 30 ∧ M 13 m = Int32.ofNat c ∧ c ≤ l := fun m hm => by
    obtain ⟨l, b1, b2, c, b3, b4⟩ := (hI.2.1 m (by omega)).1
    exact ⟨l, c, b1, b2, b3, b4⟩
  have hci : ∀ m, m < n → ∃ ci, M 13 m = Int32.ofNat ci ∧ ci ≤ 30 := fun m hm => by
    obtain ⟨l, c, b1, b2, b3, b4⟩ := hlc m hm
    exact ⟨c, b3, by omega⟩
  have hln : ∀ m, m < n → ∃ l, M 12 m = Int32.ofNat l ∧ l ≤ 30 := fun m hm => inv_lens hI m (by omega)
  have ha := hI.1.2.2.1
  have ha14 := hI.2.2.2.2.2.2.2.1.1.1
  have hz41 := hI.2.2.2.2.2.2.2.1.1.2.1
  obtain ⟨v, hv⟩ := WP_pick (d := 58) (y := mX11_request) (pc := 0) (lo := [some (.ref 2), some (.int x), some (.int y), some (.int z), some (.int b4), none, none]) (stk := []) (h := h) oI 0 oI_inj (P := fun v o h' => (∃ m, x = Int32.ofNat m ∧ m < n ∧ (0 ≤ y.toInt ∧ y.toInt < 4) ∧ reqFit M y z b4 na ∧ reqCan M m y z na ∧ o = oI (Int32.ofNat (numG (requestS (stepS (sAt M v)) m y z b4) m y z 0 (nt (requestS (stepS (sAt M v)) m y z b4 12 m)))) ∧ ∃ e1' e3' C' Z', C' ≤ C + 1 ∧ Z' ≤ Z + 6 ∧ RC (requestS (stepS (sAt M v)) m y z b4) G (e1', 0, e3') (M, G, C', Z', L, xs) h') ∨ ((¬ ((0 ≤ x.toInt ∧ x.toInt < n) ∧ (0 ≤ y.toInt ∧ y.toInt < 4))) ∧ o = .inr 3 ∧ RC (sAt M v) G (e1, 0, e3) (M, G, C + 1, Z + 6, L, xs) h') ∨ ((((0 ≤ x.toInt ∧ x.toInt < n) ∧ (0 ≤ y.toInt ∧ y.toInt < 4)) ∧ ¬ reqFit M y z b4 na) ∧ o = .inr 1 ∧ RC (sAt M v) G (e1, 0, e3) (M, G, C + 1, Z + 6, L, xs) h') ∨ ((∃ m, x = Int32.ofNat m ∧ m < n ∧ (0 ≤ y.toInt ∧ y.toInt < 4) ∧ reqFit M y z b4 na ∧ ¬ reqCan M m y z na) ∧ o = .inr 2 ∧ RC (sAt M v) G (e1, 0, e3) (M, G, C + 1, Z + 6, L, xs) h')) (fun v => c_request (rc_at hr) hM hn hn5 ha ha14 hln hz41 (fun q h' r => Or.inr (Or.inl ⟨q, rfl, r⟩)) (fun q q2 h' r => Or.inr (Or.inr (Or.inl ⟨⟨q, fun w9 => q2 (fitA.mpr w9)⟩, rfl, r⟩))) (fun m q1 q2 q3 q4 q5 h' r => Or.inr (Or.inr (Or.inr ⟨⟨m, q1, q2, q3, fitA.mp q4, fun w9 => q5 (canA.mpr w9)⟩, rfl, r⟩))) (fun p q1 q2 q3 q4 q5 h' X' hX r => Or.inl ⟨p, q1, q2, q3, fitA.mp q4, canA.mp q5, rfl, e1, e3, hX.elim (fun w9 => ⟨C, Z, by omega, by omega, by subst w9; exact r⟩) (fun w9 => ⟨C + 1, Z + 4, by omega, by omega, by subst w9; exact r⟩)⟩))
  refine bL_request_0 ⟨by decide, st_K_2 (rcS hr), hv.mono ?_⟩
  rintro o h' ⟨(⟨p, q1, q2, q3, q4, q5, rfl, e1', e3', C', Z', c1, c2, r⟩ | ⟨q, rfl, r⟩ | ⟨⟨q, q5⟩, rfl, r⟩ | ⟨⟨m, q1, q2, q3, q4, q5⟩, rfl, r⟩), hx'⟩
  · have _ := hI
    have ev := hx' _ rfl
    unfold oI
    rw [KK_ret]
    refine bL_request_12 ⟨qK_c253 r hM hM2, inA_1 (qL_c253 r hM hM2), ?_⟩
    rw [ev, show (0 : Int32).toNatClampNeg = 0 from rfl, KK_ret]
    have r1 := rc_outL r v
    refine bL_law_887 ⟨(rc_scr r1).1, ix_in (k := 1) r1 hLL (by omega), ix_in (k := 2) r1 hLL (by omega), ix_in (k := 3) r1 hLL (by omega), ix_in (k := 4) r1 hLL (by omega), by decide, q0 r1 hM, ?_⟩
    have ea0 := (ix_at (i := i) (k := 1) r1 hLL (by omega)).trans hx0
    have ea1 := (ix_at (i := i) (k := 2) r1 hLL (by omega)).trans hx1
    have ea2 := (ix_at (i := i) (k := 3) r1 hLL (by omega)).trans hx2
    have ea3 := (ix_at (i := i) (k := 4) r1 hLL (by omega)).trans hx3
    rw [show Int32.ofNat (5 * i) + (1 : Int32) = Int32.ofNat (5 * i) + Int32.ofNat 1 from rfl, ea0, show Int32.ofNat (5 * i) + (2 : Int32) = Int32.ofNat (5 * i) + Int32.ofNat 2 from rfl, ea1, show Int32.ofNat (5 * i) + (3 : Int32) = Int32.ofNat (5 * i) + Int32.ofNat 3 from rfl, ea2, show Int32.ofNat (5 * i) + (4 : Int32) = Int32.ofNat (5 * i) + Int32.ofNat 4 from rfl, ea3]
    refine x_request r1 hM hn hn35 hln hI.endh (fun w9 => absurd ⟨⟨by rw [q1, o_i _ (by omega)]; omega, by rw [q1, o_i _ (by omega)]; omega⟩, q3⟩ w9) (fun _ a5 => absurd (fitU.mpr q4) a5) (fun m' a1 a2 a3 a4 a5 => absurd (by
        have e9 := o_inj (a1.symm.trans q1) (by omega) (by omega)
        subst e9
        exact canU.mpr q5) a5) (fun p' q1' q2' q3' q4' q5' h2 r2 => ?_)
    have ep : p' = p := o_inj (q1'.symm.trans q1) (by omega) (by omega)
    subst ep
    obtain ⟨g', na', iv⟩ := inv_request (by omega) (hI.at (v := v)) q2 (fitA.mpr q4) (canA.mpr q5)
    unfold sAt at iv
    rw [iv.noop] at r2
    have m1 : (requestS (stepS (u2 (u2 M 1001 0 v) 50 0 0)) p' y z b4) 1000 0 = 0 := (hi_request (by decide)).trans hM
    have m2 : (requestS (stepS (u2 (u2 M 1001 0 v) 50 0 0)) p' y z b4) 1002 0 = 0 := (hi_request (by decide)).trans hM2
    have m3 : (requestS (stepS (u2 (u2 M 1001 0 v) 50 0 0)) p' y z b4) 1001 0 = v := (hi_request (by decide)).trans rfl
    have m5 : (requestS (stepS (u2 (u2 M 1001 0 v) 50 0 0)) p' y z b4) 50 0 = 0 := (hi_request (by decide)).trans rfl
    rw [KK_ret]
    refine bL_law_917 ⟨by decide, q0 r2 m1, x_thrown r2 m1 ?_⟩
    rw [KK_ret, m5]
    refine bL_law_923 ⟨fun _ => ⟨fun w => absurd rfl w, fun _ => ⟨qK_c253 r2 m1 m2, inA_1 (qL_c253 r2 m1 m2), fun _ => ?_, fun w => absurd ?_ w⟩⟩, fun w => absurd rfl w⟩
    · exact go_on go r2 (fun _ _ _ _ => rfl) m1 m2 (iv) (by omega) (by omega)
    · have eo := qAL_c253 r2 m1 m2
      rw [show ((0 : Int32)).toNatClampNeg = 0 from rfl, eo, m3]
      have ev2 : Int32.ofNat (numG (requestS (stepS (u2 (u2 M 1001 0 v) 50 0 0)) p' y z b4) p' y z 0 (nt (requestS (stepS (u2 (u2 M 1001 0 v) 50 0 0)) p' y z b4 12 p'))) = v := ev
      rw [ev2]
      exact lg_eq _
  · refine KK_hdl rfl rfl rfl (bL_request_19 ?_)
    rw [KK_ret]
    refine bL_law_887 ⟨(rc_scr r).1, ix_in (k := 1) r hLL (by omega), ix_in (k := 2) r hLL (by omega), ix_in (k := 3) r hLL (by omega), ix_in (k := 4) r hLL (by omega), by decide, q0 r hM, ?_⟩
    have ea0 := (ix_at (i := i) (k := 1) r hLL (by omega)).trans hx0
    have ea1 := (ix_at (i := i) (k := 2) r hLL (by omega)).trans hx1
    have ea2 := (ix_at (i := i) (k := 3) r hLL (by omega)).trans hx2
    have ea3 := (ix_at (i := i) (k := 4) r hLL (by omega)).trans hx3
    rw [show Int32.ofNat (5 * i) + (1 : Int32) = Int32.ofNat (5 * i) + Int32.ofNat 1 from rfl, ea0, show Int32.ofNat (5 * i) + (2 : Int32) = Int32.ofNat (5 * i) + Int32.ofNat 2 from rfl, ea1, show Int32.ofNat (5 * i) + (3 : Int32) = Int32.ofNat (5 * i) + Int32.ofNat 3 from rfl, ea2, show Int32.ofNat (5 * i) + (4 : Int32) = Int32.ofNat (5 * i) + Int32.ofNat 4 from rfl, ea3]
    refine x_request r hM hn hn35 hln hI.endh (fun _ h2 r2 => ?_) (fun w9 => absurd w9 q) (fun p q1 q2 q3 => absurd ⟨⟨by rw [q1, o_i _ (by omega)]; omega, by rw [q1, o_i _ (by omega)]; omega⟩, q3⟩ q) (fun p q1 q2 q3 => absurd ⟨⟨by rw [q1, o_i _ (by omega)]; omega, by rw [q1, o_i _ (by omega)]; omega⟩, q3⟩ q)
    rw [KK_ret]
    refine bL_law_917 ⟨by decide, q0 r2 hM, x_thrown r2 hM ?_⟩
    rw [KK_ret]
    refine bL_law_923 ⟨fun _ => ⟨fun _ => ?_, fun w => absurd (by decide) w⟩, fun w => absurd rfl w⟩
    exact go_on go r2 (fun s k h1 h2 => by unfold sAt; rw [u2_ne (by omega), u2_ne (by omega), u2_ne (by omega)]) hM hM2 (hI.cg (fun s k q => by rw [u2_ne (by omega)])).up (by omega) (by omega)
  · refine KK_hdl rfl rfl rfl (bL_request_23 ?_)
    rw [KK_ret]
    refine bL_law_887 ⟨(rc_scr r).1, ix_in (k := 1) r hLL (by omega), ix_in (k := 2) r hLL (by omega), ix_in (k := 3) r hLL (by omega), ix_in (k := 4) r hLL (by omega), by decide, q0 r hM, ?_⟩
    have ea0 := (ix_at (i := i) (k := 1) r hLL (by omega)).trans hx0
    have ea1 := (ix_at (i := i) (k := 2) r hLL (by omega)).trans hx1
    have ea2 := (ix_at (i := i) (k := 3) r hLL (by omega)).trans hx2
    have ea3 := (ix_at (i := i) (k := 4) r hLL (by omega)).trans hx3
    rw [show Int32.ofNat (5 * i) + (1 : Int32) = Int32.ofNat (5 * i) + Int32.ofNat 1 from rfl, ea0, show Int32.ofNat (5 * i) + (2 : Int32) = Int32.ofNat (5 * i) + Int32.ofNat 2 from rfl, ea1, show Int32.ofNat (5 * i) + (3 : Int32) = Int32.ofNat (5 * i) + Int32.ofNat 3 from rfl, ea2, show Int32.ofNat (5 * i) + (4 : Int32) = Int32.ofNat (5 * i) + Int32.ofNat 4 from rfl, ea3]
    refine x_request r hM hn hn35 hln hI.endh (fun w9 => absurd q w9) (fun _ _ h2 r2 => ?_) (fun _ _ _ _ a5 => absurd a5 q5) (fun _ _ _ _ a5 => absurd a5 q5)
    rw [KK_ret]
    refine bL_law_917 ⟨by decide, q0 r2 hM, x_thrown r2 hM ?_⟩
    rw [KK_ret]
    refine bL_law_923 ⟨fun _ => ⟨fun _ => ?_, fun w => absurd (by decide) w⟩, fun w => absurd rfl w⟩
    exact go_on go r2 (fun s k h1 h2 => by unfold sAt; rw [u2_ne (by omega), u2_ne (by omega), u2_ne (by omega)]) hM hM2 (hI.cg (fun s k q => by rw [u2_ne (by omega)])).up (by omega) (by omega)
  · refine KK_hdl rfl rfl rfl (bL_request_27 ?_)
    rw [KK_ret]
    refine bL_law_887 ⟨(rc_scr r).1, ix_in (k := 1) r hLL (by omega), ix_in (k := 2) r hLL (by omega), ix_in (k := 3) r hLL (by omega), ix_in (k := 4) r hLL (by omega), by decide, q0 r hM, ?_⟩
    have ea0 := (ix_at (i := i) (k := 1) r hLL (by omega)).trans hx0
    have ea1 := (ix_at (i := i) (k := 2) r hLL (by omega)).trans hx1
    have ea2 := (ix_at (i := i) (k := 3) r hLL (by omega)).trans hx2
    have ea3 := (ix_at (i := i) (k := 4) r hLL (by omega)).trans hx3
    rw [show Int32.ofNat (5 * i) + (1 : Int32) = Int32.ofNat (5 * i) + Int32.ofNat 1 from rfl, ea0, show Int32.ofNat (5 * i) + (2 : Int32) = Int32.ofNat (5 * i) + Int32.ofNat 2 from rfl, ea1, show Int32.ofNat (5 * i) + (3 : Int32) = Int32.ofNat (5 * i) + Int32.ofNat 3 from rfl, ea2, show Int32.ofNat (5 * i) + (4 : Int32) = Int32.ofNat (5 * i) + Int32.ofNat 4 from rfl, ea3]
    refine x_request r hM hn hn35 hln hI.endh (fun w9 => absurd ⟨⟨by rw [q1, o_i _ (by omega)]; omega, by rw [q1, o_i _ (by omega)]; omega⟩, q3⟩ w9) (fun _ a5 => absurd q4 a5) (fun _ _ _ _ _ _ h2 r2 => ?_) (fun m' a1 a2 a3 a4 a5 => absurd a5 (by
        have e9 := o_inj (a1.symm.trans q1) (by omega) (by omega)
        subst e9
        exact q5))
    rw [KK_ret]
    refine bL_law_917 ⟨by decide, q0 r2 hM, x_thrown r2 hM ?_⟩
    rw [KK_ret]
    refine bL_law_923 ⟨fun _ => ⟨fun _ => ?_, fun w => absurd (by decide) w⟩, fun w => absurd rfl w⟩
    exact go_on go r2 (fun s k h1 h2 => by unfold sAt; rw [u2_ne (by omega), u2_ne (by omega), u2_ne (by omega)]) hM hM2 (hI.cg (fun s k q => by rw [u2_ne (by omega)])).up (by omega) (by omega)
end LAWDB
