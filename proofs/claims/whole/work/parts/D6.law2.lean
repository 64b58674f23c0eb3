/-! ===== the law: begin ===== -/
section LAW2
variable {h h' : HP} {Q : Out → HP → Prop} {S : SI} {F : SF} {e : EX} {M : SI} {G : SF} {C Z L Z0 i n na st : Nat} {xs : Nat → Int32} {g : YG} {pa : Nat → ZA} {pv : Nat → ZV} {e1 : Int32} {e3 : RW × UInt32} {u6 u7 : Option Value}
theorem rc_scr (r : RC S F e (M, G, C, Z, L, xs) h) : hK h 1 = 19 ∧ hL h 1 = L ∧ hAI h 1 = xs := ⟨(rmT r).2.2.2.2.1.2.2, (rmT r).2.2.1, (rmT r).2.2.2.1⟩
theorem ix_add {k : Nat} : Int32.ofNat (5 * i) + Int32.ofNat k = Int32.ofNat (5 * i + k) := o_addn _ _
theorem ix_in {k : Nat} (r : RC S F e (M, G, C, Z, L, xs) h) (hL : L ≤ 2560) (hk : 5 * i + k < L) : inA h 1 (Int32.ofNat (5 * i) + Int32.ofNat k) = true := by
  rw [ix_add]
  exact inA_o (rc_scr r).2.1 hk (by omega)
theorem ix_at {k : Nat} (r : RC S F e (M, G, C, Z, L, xs) h) (hL : L ≤ 2560) (hk : 5 * i + k < L) : hAI h 1 (Int32.ofNat (5 * i) + Int32.ofNat k).toNatClampNeg = xs (5 * i + k) := by
  rw [ix_add, o_c _ (by omega), (rc_scr r).2.2]
theorem ix_5 : Int32.ofNat (5 * i) + (5 : Int32) = Int32.ofNat (5 * (i + 1)) := by
  have := o_addn (5 * i) 5
  rw [Nat.mul_succ]
  exact this
theorem inA_1 {h : HP} {a : Nat} (hl : hL h a = 1) : inA h a (0 : Int32) = true := inA_o (i := 0) hl (by decide) (by decide)
/-- the loop goes on -/
theorem go_on (go : GO L xs Z0 60 (i + 1) Q) (r : RC S G (e1, 0, e3) (M, G, C, Z, L, xs) h) (hS : ∀ s k, s < 48 → s ≠ 40 → M s k = S s k) (hM : M 1000 0 = 0) (hM2 : M 1002 0 = 0) (hI : INV (i + 1) n na g pa pv M G) (hC : C ≤ 253 + (i + 1)) (hZ : Z ≤ Z0 + 6 * (i + 1)) : WP 60 mL_law 28 [some (.ref 1), some (.ref 2), some (.ref 210), some (.ref 253), some (.ref 254), some (.int (Int32.ofNat (5 * i) + (5 : Int32))), u6, u7] [] h Q := by
  rw [ix_5]
  obtain ⟨e1', r'⟩ := rc_swap r hS
  exact go h u6 u7 ⟨e1', e3, M, G, C, Z, n, na, g, pa, pv, r', hM, hM2, hI, hC, hZ⟩
theorem inv_lens (hI : INV st n na g pa pv M G) : ∀ m, m < 5 → ∃ l, M 12 m = Int32.ofNat l ∧ l ≤ 30 := fun m hm => by
  obtain ⟨l, h1, h2, _⟩ := (hI.2.1 m hm).1
  exact ⟨l, h1, h2⟩
theorem INV.up (h : INV st n na g pa pv M G) : INV (st + 1) n na g pa pv M G := by
  have hx := h.msx1
  obtain ⟨⟨a1, a2, a3, s, a4, a5⟩, hM, hC, hR, hP, hZ, hE, hH, _, hL⟩ := h
  refine ⟨⟨a1, a2, a3, s, a4, by omega⟩, fun m hm => ?_, hC, hR, fun d hd => ?_, hZ, hE, hH, hx, hL⟩
  · obtain ⟨b1, ⟨t, b2, b3⟩, b4⟩ := hM m hm
    exact ⟨b1, ⟨t, b2, by omega⟩, b4⟩
  · obtain ⟨q0, q1, q2, q3, q4, q5⟩ := hP d hd
    refine ⟨q0, fun a ha => ⟨(q1 a ha).1, ?_⟩, q2, fun b v q => ⟨(q3 b v q).1, ?_⟩, q4, q5⟩
    · have := (q1 a ha).2
      omega
    · have := (q3 b v q).2
      omega
theorem op_begin (hL : LI L xs Z0 i h) (hi : i < 512) (hin : 5 * i + 5 ≤ L) (hLL : L ≤ 2560) (go : GO L xs Z0 60 (i + 1) Q) {x : Int32} (hx : xs (5 * i + 1) = x) : WP 59 mL_begin 0 [some (.ref 2), some (.int x), some (.ref 253), none] [] h (KK 59 mL_law mL_begin 176 (lwL i u6 u7) [] Q) := by
  obtain ⟨e1, e3, M, G, C, Z, n, na, g, pa, pv, hr, hM, hM2, hI, hC, hZ⟩ := hL
  obtain ⟨v, hv⟩ := WP_pick (d := 58) (y := mX11_begin) (pc := 0) (lo := [some (.ref 2), some (.int x), none]) (stk := []) (h := h) oI 0 oI_inj (P := fun v o h' => ((x = 3 ∨ x = 5) ∧ o = oI (sAt M v 0 0) ∧ ∃ e1', RC (beginS (sAt M v) x) (beginF G) (e1', 0, e3) (M, G, C, Z, L, xs) h') ∨ (¬ (x = 3 ∨ x = 5) ∧ o = .inr 1 ∧ RC (sAt M v) G (e1, 0, e3) (M, G, C + 1, Z + 6, L, xs) h')) (fun v => c_begin (rc_at hr) (inv_lens hI) (fun q h' r => Or.inr ⟨q, rfl, r⟩) (fun q h' e1' r => Or.inl ⟨q, rfl, e1', r⟩))
  refine bL_begin_0 ⟨by decide, st_K_2 (rcS hr), hv.mono ?_⟩
  rintro o h' ⟨(⟨q, rfl, e1', r⟩ | ⟨q, rfl, r⟩), hx'⟩
  · have ev := hx' _ rfl
    unfold oI
    rw [KK_ret]
    refine bL_begin_7 ⟨qK_c253 r hM hM2, inA_1 (qL_c253 r hM hM2), ?_⟩
    rw [ev, show (0 : Int32).toNatClampNeg = 0 from rfl, KK_ret]
    have r1 := rc_outL r v
    refine bL_law_179 ⟨(rc_scr r1).1, ix_in (k := 1) r1 hLL (by omega), by decide, q0 r1 hM, ?_⟩
    have ea := ix_at (i := i) (k := 1) r1 hLL (by omega)
    rw [hx] at ea
    rw [show Int32.ofNat (5 * i) + (1 : Int32) = Int32.ofNat (5 * i) + Int32.ofNat 1 from rfl, ea]
    refine x_begin r1 hM (fun w => absurd q w) (fun _ h2 r2 => ?_)
    have m1 : beginS (u2 (u2 M 1001 0 v) 50 0 0) x 1000 0 = 0 := hM
    have m2 : beginS (u2 (u2 M 1001 0 v) 50 0 0) x 1002 0 = 0 := hM2
    rw [KK_ret]
    refine bL_law_191 ⟨by decide, q0 r2 m1, x_thrown r2 m1 ?_⟩
    rw [KK_ret]
    refine bL_law_197 ⟨fun _ => ⟨fun w => absurd rfl w, fun _ => ⟨qK_c253 r2 m1 m2, inA_1 (qL_c253 r2 m1 m2), fun _ => ?_, fun w => absurd ?_ w⟩⟩, fun w => absurd rfl w⟩
    · exact go_on go r2 (fun _ _ _ _ => rfl) m1 m2 (inv_begin hI.at.base q) (by omega) (by omega)
    · have eo := qAL_c253 r2 m1 m2
      rw [show ((0 : Int32)).toNatClampNeg = 0 from rfl, eo]
      show lg_cmp (Int32.toInt64 v) (Int32.toInt64 (sAt M v 0 0)) = 0
      rw [ev]
      exact lg_eq _
  · refine KK_hdl rfl rfl rfl (bL_begin_13 ?_)
    rw [KK_ret]
    refine bL_law_179 ⟨(rc_scr r).1, ix_in (k := 1) r hLL (by omega), by decide, q0 r hM, ?_⟩
    have ea := ix_at (i := i) (k := 1) r hLL (by omega)
    rw [hx] at ea
    rw [show Int32.ofNat (5 * i) + (1 : Int32) = Int32.ofNat (5 * i) + Int32.ofNat 1 from rfl, ea]
    refine x_begin r hM (fun _ h2 r2 => ?_) (fun w => absurd w q)
    rw [KK_ret]
    refine bL_law_191 ⟨by decide, q0 r2 hM, x_thrown r2 hM ?_⟩
    rw [KK_ret]
    refine bL_law_197 ⟨fun _ => ⟨fun _ => ?_, fun w => absurd (by decide) w⟩, fun w => absurd rfl w⟩
    exact go_on go r2 (fun s k h1 h2 => by unfold sAt; rw [u2_ne (by omega), u2_ne (by omega), u2_ne (by omega)]) hM hM2 (hI.cg (fun s k q => by rw [u2_ne (by omega)])).up (by omega) (by omega)
end LAW2
