/-! ===== the law: pass and the questions ===== -/
section LAWDG
variable {h h' : HP} {Q : Out → HP → Prop} {S : SI} {F : SF} {e : EX} {M : SI} {G : SF} {C Z L Z0 i n na st : Nat} {xs : Nat → Int32} {g : YG} {pa : Nat → ZA} {pv : Nat → ZV} {e1 : Int32} {e3 : RW × UInt32} {u6 u7 : Option Value}
section PASS2
variable {c : Nat × Nat × Nat × (Nat → Int32)} {X : MX} {d : Nat}
theorem c_pass2 (hr : RC S F e X h) (hn : S 0 0 = Int32.ofNat n) (hn5 : n ≤ 5) {x : Int32} {u1 u2' : Option Value} (H : (1 ≤ x.toInt ∧ x.toInt ≤ 1000) → nn32 (FP.fadd (F 1 0) (FP.fdiv (FP.i2f x) (1092616192 : UInt32))) = true ∧ ∀ m, m < n → nn32 (FP.fmul (FP.fdiv (FP.i2f x) (1092616192 : UInt32)) (F 8 m)) = true ∧ nn32 (FP.fadd (F 7 m) (FP.fmul (FP.fdiv (FP.i2f x) (1092616192 : UInt32)) (F 8 m))) = true) (k1 : ¬ (1 ≤ x.toInt ∧ x.toInt ≤ 1000) → ∀ h', RC S F e (thX X) h' → Q (.inr 1) h') (k : (1 ≤ x.toInt ∧ x.toInt ≤ 1000) → ∀ h', RC (stepS S) (passF F (FP.fdiv (FP.i2f x) (1092616192 : UInt32)) n) e X h' → Q (.inl (some (.float (FP.fadd (F 1 0) (FP.fdiv (FP.i2f x) (1092616192 : UInt32)))))) h') : WP (d + 2) mX11_pass 0 [some (.ref 2), some (.int x), u1, u2'] [] h Q := by
  by_cases cx : 1 ≤ x.toInt ∧ x.toInt ≤ 1000
  · exact c_pass hr hn hn5 (nn_10 _) (H cx).1 (H cx).2 k1 k
  · exact bX11_pass_0 (w_needRange (fun c => KK_exc rfl rfl rfl (k1 c _ (rc_thr hr))) (fun c1 c2 => absurd ⟨c1, c2⟩ cx))
theorem x_pass2 (hr : RC S F e (M, G, c) h) (hM : M 1000 0 = 0) (hn : M 0 0 = Int32.ofNat n) (hn5 : n = 3 ∨ n = 5) {x : Int32} {u1 u2' : Option Value} (H : (1 ≤ x.toInt ∧ x.toInt ≤ 1000) → nn32 (FP.fadd (G 1 0) (FP.fdiv (FP.i2f x) (1092616192 : UInt32))) = true ∧ ∀ m, m < n → nn32 (FP.fmul (FP.fdiv (FP.i2f x) (1092616192 : UInt32)) (G 8 m)) = true ∧ nn32 (FP.fadd (G 7 m) (FP.fmul (FP.fdiv (FP.i2f x) (1092616192 : UInt32)) (G 8 m))) = true) (k1 : ¬ (1 ≤ x.toInt ∧ x.toInt ≤ 1000) → ∀ h', RC S F e (u2 M 50 0 1, G, c) h' → Q (.inl (some (.float FP.fconst0))) h') (k : (1 ≤ x.toInt ∧ x.toInt ≤ 1000) → ∀ h', RC S F e (stepS (u2 M 50 0 0), passF G (FP.fdiv (FP.i2f x) (1092616192 : UInt32)) n, c) h' → Q (.inl (some (.float (FP.fadd (G 1 0) (FP.fdiv (FP.i2f x) (1092616192 : UInt32)))))) h') : WP (d + 1) mX12_pass 0 [some (.ref 210), some (.int x), u1, u2'] [] h Q := by
  by_cases cx : 1 ≤ x.toInt ∧ x.toInt ≤ 1000
  · exact x_pass hr hM hn hn5 (nn_10 _) (H cx).1 (H cx).2 k1 k
  · refine bX12_pass_0 (x_in ?_)
    rw [KK_ret]
    have e1 : ((1 : Int32).toInt ≤ x.toInt ∧ x.toInt ≤ (1000 : Int32).toInt) = (1 ≤ x.toInt ∧ x.toInt ≤ 1000) := rfl
    rw [decide_eq_decide.mpr (iff_of_eq e1)]
    refine bX12_pass_9 ⟨by decide, q0 hr hM, x_goes (b := true) (g := true) hr hM ?_⟩
    intro h1 hr1
    rw [KK_ret]
    rw [decide_eq_false cx] at hr1 ⊢
    exact bX12_pass_14 ⟨fun w => absurd rfl w, fun _ => k1 cx h1 hr1⟩
end PASS2
theorem pass_H (hI : INV st n na g pa pv M G) {x : Int32} (cx : 1 ≤ x.toInt ∧ x.toInt ≤ 1000) : nn32 (FP.fadd (G 1 0) (FP.fdiv (FP.i2f x) (1092616192 : UInt32))) = true ∧ ∀ m, m < n → nn32 (FP.fmul (FP.fdiv (FP.i2f x) (1092616192 : UInt32)) (G 8 m)) = true ∧ nn32 (FP.fadd (G 7 m) (FP.fmul (FP.fdiv (FP.i2f x) (1092616192 : UInt32)) (G 8 m))) = true := by
  have hfl := hI.2.2.2.2.2.2.2.2.2
  have hn := hI.1.2.1
  refine ⟨(PF_add hfl.1 (PQ_time cx).pf).nn, fun m hm => ?_⟩
  have q := PF_mul (PQ_time cx) (hfl.2.2.2.1 m (by omega)).2
  exact ⟨q.nn, (PF_add (hfl.2.2.2.1 m (by omega)).1 q).nn⟩
theorem passF_hi {x w : UInt32} : ∀ j, passF (u2 G 1001 0 w) x j 1001 0 = w := by
  intro j
  induction j with
  | zero => rfl
  | succ j ih =>
    show u2 (passF (u2 G 1001 0 w) x j) 7 j _ 1001 0 = w
    rw [u2_ne (by omega)]
    exact ih
theorem leas_hol {F : SF} : ∀ j, (∀ m, m < j → (S 23 m = 0 ∨ S 23 m = 1) ∧ (S 23 m = 1 → S 11 m = 2)) → leasN S F j = holN S F j := by
  intro j
  induction j with
  | zero => intro _; rfl
  | succ j ih =>
    intro hm
    show leasN S F j + (if ¬ S 5 j = 0 ∧ S 23 j = 1 ∧ fltG (F 7 j) (F 24 j) = true then 1 else 0) = holN S F j + (if holB S F j = true then 1 else 0)
    rw [ih (fun m hm' => hm m (by omega))]
    have q := hm j (by omega)
    have e : (¬ S 5 j = 0 ∧ S 23 j = 1 ∧ fltG (F 7 j) (F 24 j) = true) ↔ holB S F j = true := by
      unfold holB
      constructor
      · rintro ⟨a, b, c⟩
        rw [c, q.2 b, b]
        simp [a]
      · intro a
        simp only [Bool.and_eq_true, Bool.not_eq_true', decide_eq_true_eq, decide_eq_false_iff_not] at a
        exact ⟨a.1.1.1, q.1.resolve_left a.1.2, a.2⟩
    by_cases z : holB S F j = true
    · rw [if_pos z, if_pos (e.mpr z)]
    · rw [if_neg z, if_neg (fun w => z (e.mp w))]
theorem op_pass (hL : LI L xs Z0 i h) (hi : i < 512) (hin : 5 * i + 5 ≤ L) (hLL : L ≤ 2560) (go : GO L xs Z0 60 (i + 1) Q) {x : Int32} (hx0 : xs (5 * i + 1) = x) : WP 59 mL_pass 0 [some (.ref 2), some (.int x), some (.ref 254), none] [] h (KK 59 mL_law mL_pass 509 (lwL i u6 u7) [] Q) := by
  obtain ⟨e1, e3, M, G, C, Z, n, na, g, pa, pv, hr, hM, hM2, hI, hC, hZ⟩ := hL
  have hn := hI.1.1
  have hn35 := hI.1.2.1
  have hn5 : n ≤ 5 := by omega
  have hfl := hI.2.2.2.2.2.2.2.2.2
  obtain ⟨v, hv⟩ := WP_pick (d := 58) (y := mX11_pass) (pc := 0) (lo := [some (.ref 2), some (.int x), none, none]) (stk := []) (h := h) oF 0 oF_inj (P := fun v o h' => (∃ _u : Unit, (1 ≤ x.toInt ∧ x.toInt ≤ 1000) ∧ o = oF (FP.fadd (u2 G 1001 0 v 1 0) (FP.fdiv (FP.i2f x) (1092616192 : UInt32))) ∧ ∃ e1' e3', RC (stepS (u2 M 50 0 0)) (passF (u2 G 1001 0 v) (FP.fdiv (FP.i2f x) (1092616192 : UInt32)) n) (e1', 0, e3') (M, G, C, Z, L, xs) h') ∨ ((¬ (1 ≤ x.toInt ∧ x.toInt ≤ 1000)) ∧ o = .inr 1 ∧ RC (u2 M 50 0 0) (u2 G 1001 0 v) (e1, 0, e3) (M, G, C + 1, Z + 6, L, xs) h')) (fun v => c_pass2 (rc_atF hr) hn hn5 (pass_H hI) (fun q h' r => Or.inr ⟨q, rfl, r⟩) (fun q h' r => Or.inl ⟨(), q, rfl, e1, e3, r⟩))
  refine bL_pass_0 ⟨by decide, st_K_2 (rcS hr), hv.mono ?_⟩
  rintro o h' ⟨(⟨_, q, rfl, e1', e3', r⟩ | ⟨q, rfl, r⟩), hx'⟩
  · have _ := hI
    have ev := hx' _ rfl
    unfold oF
    rw [KK_ret]
    have vn : FP.Core.val32 v ≠ .nan := by rw [← ev]; exact PF_val (PF_add hfl.1 (PQ_time q).pf)
    rw [ev]
    refine bL_pass_7 ⟨nn_val64 (val_nz vn), qK_c254 r hM hM2, inA_1 (qL_c254 r hM hM2), ?_⟩
    rw [show (0 : Int32).toNatClampNeg = 0 from rfl, KK_ret]
    have r1 := rc_outD r v
    refine bL_law_512 ⟨(rc_scr r1).1, ix_in (k := 1) r1 hLL (by omega), by decide, q0 r1 hM, ?_⟩
    have ea0 := (ix_at (i := i) (k := 1) r1 hLL (by omega)).trans hx0
    rw [show Int32.ofNat (5 * i) + (1 : Int32) = Int32.ofNat (5 * i) + Int32.ofNat 1 from rfl, ea0]
    refine x_pass2 r1 hM hn hn35 (pass_H hI) (fun w => absurd q w) (fun _ h2 r2 => ?_)
    have m1 : (stepS (u2 M 50 0 0)) 1000 0 = 0 := hM
    have m2 : (stepS (u2 M 50 0 0)) 1002 0 = 0 := hM2
    have m5 : (stepS (u2 M 50 0 0)) 50 0 = 0 := rfl
    have m3 : (passF (u2 G 1001 0 v) (FP.fdiv (FP.i2f x) (1092616192 : UInt32)) n) 1001 0 = v := passF_hi n
    rw [KK_ret]
    refine bL_law_524 ⟨by decide, q0 r2 m1, x_thrown r2 m1 ?_⟩
    rw [KK_ret, m5]
    have ev2 : FP.fadd ((u2 G 1001 0 v) 1 0) (FP.fdiv (FP.i2f x) (1092616192 : UInt32)) = v := ev
    rw [ev2]
    have eo := qAD_c254 r2 m1 m2
    rw [m3] at eo
    refine bL_law_530 ⟨fun _ => ⟨fun w => absurd rfl w, fun _ => ⟨qK_c254 r2 m1 m2, inA_1 (qL_c254 r2 m1 m2), nn_val64 (val_nz vn), fun _ => ?_, fun w => absurd ?_ w⟩⟩, fun w => absurd rfl w⟩
    · exact go_on go r2 (fun _ _ _ _ => rfl) m1 m2 (inv_pass (by omega) (hI.a50.cgF v) (PQ_time q)) (by omega) (by omega)
    · rw [show ((0 : Int32)).toNatClampNeg = 0 from rfl, eo]
      exact dc_self vn
  · refine KK_hdl rfl rfl rfl (bL_pass_13 ?_)
    rw [KK_ret]
    refine bL_law_512 ⟨(rc_scr r).1, ix_in (k := 1) r hLL (by omega), by decide, q0 r hM, ?_⟩
    have ea0 := (ix_at (i := i) (k := 1) r hLL (by omega)).trans hx0
    rw [show Int32.ofNat (5 * i) + (1 : Int32) = Int32.ofNat (5 * i) + Int32.ofNat 1 from rfl, ea0]
    refine x_pass2 r hM hn hn35 (pass_H hI) (fun _ h2 r2 => ?_) (fun w => absurd w q)
    rw [KK_ret]
    refine bL_law_524 ⟨by decide, q0 r2 hM, x_thrown r2 hM ?_⟩
    rw [KK_ret]
    refine bL_law_530 ⟨fun _ => ⟨fun _ => ?_, fun w => absurd (by decide) w⟩, fun w => absurd rfl w⟩
    exact go_on go (rc_F r2) (fun s k h1 h2 => by rw [u2_ne (by omega), u2_ne (by omega)]) hM hM2 (hI.cg (fun s k q => by rw [u2_ne (by omega)])).up (by omega) (by omega)
theorem op_steps (hL : LI L xs Z0 i h) (hi : i < 512) (go : GO L xs Z0 60 (i + 1) Q) : WP 59 mX11_steps 0 [some (.ref 2)] [] h (KK 59 mL_law mX11_steps 1087 (lwL i u6 u7) [] Q) := by
  obtain ⟨e1, e3, M, G, C, Z, n, na, g, pa, pv, hr, hM, hM2, hI, hC, hZ⟩ := hL
  refine c_steps (rc_a50 hr) ?_
  rw [KK_ret]
  refine bL_law_1090 ⟨by decide, q0 hr hM, x_steps hr hM (fun h2 r2 => ?_)⟩
  rw [KK_ret]
  refine bL_law_1094 ⟨fun _ => ?_, fun w => absurd ?_ w⟩
  · exact go_on go r2 (fun s k h1 h2 => by rw [u2_ne (by omega)]) hM hM2 hI.a50.up (by omega) (by omega)
  · rfl
theorem op_messages (hL : LI L xs Z0 i h) (hi : i < 512) (go : GO L xs Z0 60 (i + 1) Q) : WP 59 mX11_messages 0 [some (.ref 2)] [] h (KK 59 mL_law mX11_messages 1100 (lwL i u6 u7) [] Q) := by
  obtain ⟨e1, e3, M, G, C, Z, n, na, g, pa, pv, hr, hM, hM2, hI, hC, hZ⟩ := hL
  refine c_messages (rc_a50 hr) ?_
  rw [KK_ret]
  refine bL_law_1103 ⟨by decide, q0 hr hM, x_messages hr hM (fun h2 r2 => ?_)⟩
  rw [KK_ret]
  refine bL_law_1107 ⟨fun _ => ?_, fun w => absurd ?_ w⟩
  · exact go_on go r2 (fun s k h1 h2 => by rw [u2_ne (by omega)]) hM hM2 hI.a50.up (by omega) (by omega)
  · rfl
theorem op_acts (hL : LI L xs Z0 i h) (hi : i < 512) (go : GO L xs Z0 60 (i + 1) Q) : WP 59 mX11_acts 0 [some (.ref 2)] [] h (KK 59 mL_law mX11_acts 1578 (lwL i u6 u7) [] Q) := by
  obtain ⟨e1, e3, M, G, C, Z, n, na, g, pa, pv, hr, hM, hM2, hI, hC, hZ⟩ := hL
  refine c_acts (rc_a50 hr) ?_
  rw [KK_ret]
  refine bL_law_1581 ⟨by decide, q0 hr hM, x_acts_ hr hM (fun h2 r2 => ?_)⟩
  rw [KK_ret]
  refine bL_law_1585 ⟨fun _ => ?_, fun w => absurd ?_ w⟩
  · exact go_on go r2 (fun s k h1 h2 => by rw [u2_ne (by omega)]) hM hM2 hI.a50.up (by omega) (by omega)
  · rfl
theorem op_leases (hL : LI L xs Z0 i h) (hi : i < 512) (go : GO L xs Z0 60 (i + 1) Q) : WP 59 mX11_leases 0 [some (.ref 2), none, none] [] h (KK 59 mL_law mX11_leases 1485 (lwL i u6 u7) [] Q) := by
  obtain ⟨e1, e3, M, G, C, Z, n, na, g, pa, pv, hr, hM, hM2, hI, hC, hZ⟩ := hL
  have hn := hI.1.1
  have hn35 := hI.1.2.1
  have hn5 : n ≤ 5 := by omega
  have h231 : ∀ m, m < n → M 23 m = 0 ∨ M 23 m = 1 := fun m hm => (hI.2.1 m (by omega)).2.2.2.2.1
  refine c_leases (rc_a50 hr) hn hn5 h231 ?_
  rw [KK_ret]
  refine bL_law_1488 ⟨by decide, q0 hr hM, x_leases_ hr hM hn hn35 (fun h2 r2 => ?_)⟩
  rw [KK_ret]
  refine bL_law_1492 ⟨fun _ => ?_, fun w => absurd ?_ w⟩
  · exact go_on go r2 (fun s k h1 h2 => by rw [u2_ne (by omega)]) hM hM2 hI.a50.up (by omega) (by omega)
  · rw [leas_hol (S := u2 M 50 0 0) (F := G) n (fun m hm => ⟨(hI.2.1 m (by omega)).2.2.2.2.1, (hI.2.1 m (by omega)).2.2.2.2.2.1⟩)]
theorem op_isAgreed (hL : LI L xs Z0 i h) (hi : i < 512) (go : GO L xs Z0 60 (i + 1) Q) : WP 59 mX11_isAgreed 0 [some (.ref 2), none, none] [] h (KK 59 mL_law mX11_isAgreed 1672 (lwL i u6 u7) [] Q) := by
  obtain ⟨e1, e3, M, G, C, Z, n, na, g, pa, pv, hr, hM, hM2, hI, hC, hZ⟩ := hL
  have hn := hI.1.1
  have hn35 := hI.1.2.1
  have hn5 : n ≤ 5 := by omega
  have hlc : ∀ m, m < n → ∃ l c, M 12 m = Int32.ofNat l ∧ l ≤ 30 ∧ M 13 m = Int32.ofNat c ∧ c ≤ l := fun m hm => by
    obtain ⟨l, b1, b2, c, b3, b4⟩ := (hI.2.1 m (by omega)).1
    exact ⟨l, c, b1, b2, b3, b4⟩
  have hci : ∀ m, m < n → ∃ ci, M 13 m = Int32.ofNat ci ∧ ci ≤ 30 := fun m hm => by
    obtain ⟨l, c, b1, b2, b3, b4⟩ := hlc m hm
    exact ⟨c, b3, by omega⟩
  have hln : ∀ m, m < n → ∃ l, M 12 m = Int32.ofNat l ∧ l ≤ 30 := fun m hm => inv_lens hI m (by omega)
  have hc5 : ∀ m, m < 5 → ∃ ci, M 13 m = Int32.ofNat ci ∧ ci ≤ 30 := fun m hm => by
    obtain ⟨l, b1, b2, c, b3, b4⟩ := (hI.2.1 m hm).1
    exact ⟨c, b3, by omega⟩
  refine c_isAgreed (rc_a50 hr) hn hn5 hlc ?_
  rw [KK_ret]
  refine bL_law_1675 ⟨by decide, q0 hr hM, x_isAgreed hr hM hn hn35 hc5 (fun h2 r2 => ?_)⟩
  rw [KK_ret]
  refine bL_law_1679 ⟨fun _ => ?_, fun w => absurd ?_ w⟩
  · exact go_on go r2 (fun s k h1 h2 => by rw [u2_ne (by omega)]) hM hM2 hI.a50.up (by omega) (by omega)
  · rfl
theorem op_isInOrder (hL : LI L xs Z0 i h) (hi : i < 512) (go : GO L xs Z0 60 (i + 1) Q) : WP 59 mX11_isInOrder 0 [some (.ref 2)] [] h (KK 59 mL_law mX11_isInOrder 1659 (lwL i u6 u7) [] Q) := by
  obtain ⟨e1, e3, M, G, C, Z, n, na, g, pa, pv, hr, hM, hM2, hI, hC, hZ⟩ := hL
  have ha := hI.1.2.2.1
  have ha14 := hI.2.2.2.2.2.2.2.1.1.1
  have hz41 := hI.2.2.2.2.2.2.2.1.1.2.1
  refine c_isInOrder (rc_a50 hr) ha ha14 hz41 ?_
  rw [KK_ret]
  refine bL_law_1662 ⟨by decide, q0 hr hM, x_isInOrder hr hM ha ha14 (fun b T h2 hb r2 => ?_)⟩
  rw [KK_ret]
  refine bL_law_1666 ⟨fun _ => ?_, fun w => absurd ?_ w⟩
  · exact go_on go r2 (fun s k h1 h2 => by unfold tbS; rw [if_neg (by omega), u2_ne (by omega)]) hM hM2 ((hI.a50 (v := 0)).cg (fun s k q => by unfold tbS; rw [if_neg (by omega)])).up (by omega) (by omega)
  · have e := ord_iff ((hI.a50 (v := 0)).2.2.2.2.2.2.2.1.1)
    have e2 : ordB (u2 M 50 0 0) na = b := by
      rw [Bool.eq_iff_iff]
      exact e.trans hb.symm
    rw [e2]
end LAWDG
