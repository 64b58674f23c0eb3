/-! ===== the law: stand, beat, propose ===== -/
section LAWDA
variable {h h' : HP} {Q : Out → HP → Prop} {S : SI} {F : SF} {e : EX} {M : SI} {G : SF} {C Z L Z0 i n na st : Nat} {xs : Nat → Int32} {g : YG} {pa : Nat → ZA} {pv : Nat → ZV} {e1 : Int32} {e3 : RW × UInt32} {u6 u7 : Option Value}
theorem hi_stand {P : PT} {m n s k : Nat} (hs : 48 ≤ s) : (standP P m n).1 s k = P.1 s k := by
  unfold standP
  rw [toAll_ne (by omega) (by omega) (by omega)]
  unfold standS
  rw [u2_ne (by omega), u2_ne (by omega), u2_ne (by omega), u2_ne (by omega), u2_ne (by omega)]
theorem hi_beat {P : PT} {m n s k : Nat} (hs : 48 ≤ s) : (beatP P m n).1 s k = P.1 s k := toAll_ne (S := P.1) (F := P.2) (by omega) (by omega) (by omega) n k
theorem hi_prop {P : PT} {m n j s k : Nat} {v : Int32} (hs : 48 ≤ s) : (propP P m n j v).1 s k = P.1 s k := by
  unfold propP
  rw [toAll_ne (by omega) (by omega) (by omega)]
  unfold propS
  rw [u2_ne (by omega), u2_ne (by omega), u2_ne (by omega), u2_ne (by omega), u2_ne (by omega), u2_ne (by omega), u2_ne (by omega)]
theorem hi_acts {w c s v a : Int32} {f k : Nat} (hs : 48 ≤ f) : actS S w c s v a f k = S f k := by
  unfold actS
  rw [u2_ne (by omega), u2_ne (by omega), u2_ne (by omega), u2_ne (by omega), u2_ne (by omega), u2_ne (by omega), u2_ne (by omega)]
theorem hi_put {t c s v : Int32} {m f k : Nat} (hs : 48 ≤ f) : putS S m t c s v f k = S f k := by
  unfold putS
  rw [u2_ne (by omega), u2_ne (by omega), u2_ne (by omega), u2_ne (by omega), u2_ne (by omega)]
theorem hi_request {c s v : Int32} {m f k : Nat} (hs : 48 ≤ f) : requestS S m c s v f k = S f k := by
  have h1 : (if (actOf S c s 0 (nt (S 47 0))).isSome = true then S else actS S 1 c s v (-1)) f k = S f k := by
    split
    · rfl
    · exact hi_acts hs
  unfold requestS
  generalize (if (actOf S c s 0 (nt (S 47 0))).isSome = true then S else actS S 1 c s v (-1)) = S1 at h1 ⊢
  split
  · exact h1
  · rw [hi_put hs]; exact h1
theorem beatN_at {v : Int32} {m : Nat} : ∀ j, beatN (u2 M 1001 0 v) m j = beatN (sAt M v) m j := by
  intro j
  induction j with
  | zero => rfl
  | succ j ih =>
    show (if j = m then beatN (u2 M 1001 0 v) m j else beatN (u2 M 1001 0 v) m j + manyN (u2 M 1001 0 v) m j) = (if j = m then beatN (sAt M v) m j else beatN (sAt M v) m j + manyN (sAt M v) m j)
    rw [ih]
    rfl
theorem actOf_eqv {S S' : SI} (h1 : S' 41 = S 41) (h2 : S' 42 = S 42) (h3 : S' 43 = S 43) {c s : Int32} : ∀ m j, actOf S' c s j m = actOf S c s j m := by
  intro m
  induction m with
  | zero => intro j; rfl
  | succ m ih => intro j; unfold actOf; rw [h1, h2, h3, ih]
theorem fitQ {S S' : SI} (h1 : S' 41 = S 41) (h2 : S' 42 = S 42) (h3 : S' 43 = S 43) (h4 : S' 44 = S 44) {c s v : Int32} : reqFit S' c s v na ↔ reqFit S c s v na := by
  unfold reqFit
  rw [actOf_eqv h1 h2 h3, h4]
theorem canQ {S S' : SI} (h1 : S' 41 = S 41) (h2 : S' 42 = S 42) (h3 : S' 43 = S 43) (h4 : S' 5 = S 5) (h5 : S' 11 = S 11) (h6 : S' 12 = S 12) {c s : Int32} {m : Nat} : reqCan S' m c s na ↔ reqCan S m c s na := by
  unfold reqCan
  rw [actOf_eqv h1 h2 h3, h4, h5, h6]
theorem fitA {c s v w : Int32} : reqFit (sAt M v) c s w na ↔ reqFit M c s w na := fitQ (S := M) (S' := sAt M v) rfl rfl rfl rfl
theorem fitU {c s v w : Int32} : reqFit (u2 M 1001 0 v) c s w na ↔ reqFit M c s w na := fitQ (S := M) (S' := u2 M 1001 0 v) rfl rfl rfl rfl
theorem canA {c s v : Int32} {m : Nat} : reqCan (sAt M v) m c s na ↔ reqCan M m c s na := canQ (S := M) (S' := sAt M v) rfl rfl rfl rfl rfl rfl
theorem canU {c s v : Int32} {m : Nat} : reqCan (u2 M 1001 0 v) m c s na ↔ reqCan M m c s na := canQ (S := M) (S' := u2 M 1001 0 v) rfl rfl rfl rfl rfl rfl
theorem op_stand (hL : LI L xs Z0 i h) (hi : i < 512) (hin : 5 * i + 5 ≤ L) (hLL : L ≤ 2560) (go : GO L xs Z0 60 (i + 1) Q) {x : Int32} (hx0 : xs (5 * i + 1) = x) : WP 59 mL_stand 0 [some (.ref 2), some (.int x), some (.ref 253), none] [] h (KK 59 mL_law mL_stand 754 (lwL i u6 u7) [] Q) := by
  obtain ⟨e1, e3, M, G, C, Z, n, na, g, pa, pv, hr, hM, hM2, hI, hC, hZ⟩ := hL
  have hn := hI.1.1
  have hn35 := hI.1.2.1
  have hn5 : n ≤ 5 := by omega
  obtain ⟨qn, hq, hq60, _⟩ := id hI.2.2.2.2.2.2.2.2.1
  have h30 : ∀ m, m < n → (M 12 m).toInt ≤ 30 := fun m hm => by
    obtain ⟨l, b1, b2⟩ := inv_lens hI m (by omega)
    rw [b1, o_i _ (by omega)]
    omega
  have h23 : ∀ m, m < n → ¬ M 11 m = 2 → M 23 m = 0 := fun m hm w => ((hI.2.1 m (by omega)).2.2.2.2.1).resolve_right (fun w2 => w ((hI.2.1 m (by omega)).2.2.2.2.2.1 w2))
  have hln : ∀ m, m < n → ∃ l, M 12 m = Int32.ofNat l ∧ l ≤ 30 := fun m hm => inv_lens hI m (by omega)
  obtain ⟨v, hv⟩ := WP_pick (d := 58) (y := mX11_stand) (pc := 0) (lo := [some (.ref 2), some (.int x), none]) (stk := []) (h := h) oI 0 oI_inj (P := fun v o h' => (∃ m, x = Int32.ofNat m ∧ m < n ∧ (¬ M 5 m = 0 ∧ ¬ M 11 m = 2 ∧ promB M G m = false) ∧ o = oI (sAt M v 9 m + 1) ∧ ∃ e1' e3', RC ((standP (stepS (sAt M v), G) m n).1) ((standP (stepS (sAt M v), G) m n).2) (e1', 0, e3') (M, G, C, Z, L, xs) h') ∨ ((¬ (0 ≤ x.toInt ∧ x.toInt < n)) ∧ o = .inr 3 ∧ RC (sAt M v) G (e1, 0, e3) (M, G, C + 1, Z + 6, L, xs) h') ∨ ((∃ m, x = Int32.ofNat m ∧ m < n ∧ ¬ (¬ M 5 m = 0 ∧ ¬ M 11 m = 2 ∧ promB M G m = false)) ∧ o = .inr 2 ∧ RC (sAt M v) G (e1, 0, e3) (M, G, C + 1, Z + 6, L, xs) h')) (fun v => c_stand (rc_at hr) hn hn5 hq hq60 h30 h23 (fun q h' r => Or.inr (Or.inl ⟨q, rfl, r⟩)) (fun m q1 q2 q3 h' r => Or.inr (Or.inr ⟨⟨m, q1, q2, q3⟩, rfl, r⟩)) (fun p q1 q2 q3 h' e1' r => Or.inl ⟨p, q1, q2, q3, rfl, e1', e3, r⟩))
  refine bL_stand_0 ⟨by decide, st_K_2 (rcS hr), hv.mono ?_⟩
  rintro o h' ⟨(⟨p, q1, q2, q3, rfl, e1', e3', r⟩ | ⟨q, rfl, r⟩ | ⟨⟨m, q1, q2, q3⟩, rfl, r⟩), hx'⟩
  · have _ := hI
    have ev := hx' _ rfl
    unfold oI
    rw [KK_ret]
    refine bL_stand_7 ⟨qK_c253 r hM hM2, inA_1 (qL_c253 r hM hM2), ?_⟩
    rw [ev, show (0 : Int32).toNatClampNeg = 0 from rfl, KK_ret]
    have r1 := rc_outL r v
    refine bL_law_757 ⟨(rc_scr r1).1, ix_in (k := 1) r1 hLL (by omega), by decide, q0 r1 hM, ?_⟩
    have ea0 := (ix_at (i := i) (k := 1) r1 hLL (by omega)).trans hx0
    rw [show Int32.ofNat (5 * i) + (1 : Int32) = Int32.ofNat (5 * i) + Int32.ofNat 1 from rfl, ea0]
    refine x_stand r1 hM hn hn35 hln hq hq60 hI.endh (fun w => absurd ⟨by rw [q1, o_i _ (by omega)]; omega, by rw [q1, o_i _ (by omega)]; omega⟩ w) (fun m' a1 a2 a3 => absurd (by
        have e9 := o_inj (a1.symm.trans q1) (by omega) (by omega)
        subst e9
        exact q3) a3) (fun p' q1' q2' q3' h2 r2 => ?_)
    have ep : p' = p := o_inj (q1'.symm.trans q1) (by omega) (by omega)
    subst ep
    have iv := inv_stand1 (by omega) (hI.at (v := v)) q2
    unfold sAt at iv
    rw [iv.noop] at r2
    have m1 : ((standP (stepS (u2 (u2 M 1001 0 v) 50 0 0), G) p' n).1) 1000 0 = 0 := (hi_stand (by decide)).trans hM
    have m2 : ((standP (stepS (u2 (u2 M 1001 0 v) 50 0 0), G) p' n).1) 1002 0 = 0 := (hi_stand (by decide)).trans hM2
    have m3 : ((standP (stepS (u2 (u2 M 1001 0 v) 50 0 0), G) p' n).1) 1001 0 = v := (hi_stand (by decide)).trans rfl
    have m5 : ((standP (stepS (u2 (u2 M 1001 0 v) 50 0 0), G) p' n).1) 50 0 = 0 := (hi_stand (by decide)).trans rfl
    rw [KK_ret]
    refine bL_law_769 ⟨by decide, q0 r2 m1, x_thrown r2 m1 ?_⟩
    rw [KK_ret, m5]
    refine bL_law_775 ⟨fun _ => ⟨fun w => absurd rfl w, fun _ => ⟨qK_c253 r2 m1 m2, inA_1 (qL_c253 r2 m1 m2), fun _ => ?_, fun w => absurd ?_ w⟩⟩, fun w => absurd rfl w⟩
    · exact go_on go r2 (fun _ _ _ _ => rfl) m1 m2 (iv) (by omega) (by omega)
    · have eo := qAL_c253 r2 m1 m2
      rw [show ((0 : Int32)).toNatClampNeg = 0 from rfl, eo, m3]
      have ev2 : (u2 M 1001 0 v) 9 p' + 1 = v := ev
      rw [ev2]
      exact lg_eq _
  · refine KK_hdl rfl rfl rfl (bL_stand_13 ?_)
    rw [KK_ret]
    refine bL_law_757 ⟨(rc_scr r).1, ix_in (k := 1) r hLL (by omega), by decide, q0 r hM, ?_⟩
    have ea0 := (ix_at (i := i) (k := 1) r hLL (by omega)).trans hx0
    rw [show Int32.ofNat (5 * i) + (1 : Int32) = Int32.ofNat (5 * i) + Int32.ofNat 1 from rfl, ea0]
    refine x_stand r hM hn hn35 hln hq hq60 hI.endh (fun _ h2 r2 => ?_) (fun p q1 q2 => absurd ⟨by rw [q1, o_i _ (by omega)]; omega, by rw [q1, o_i _ (by omega)]; omega⟩ q) (fun p q1 q2 => absurd ⟨by rw [q1, o_i _ (by omega)]; omega, by rw [q1, o_i _ (by omega)]; omega⟩ q)
    rw [KK_ret]
    refine bL_law_769 ⟨by decide, q0 r2 hM, x_thrown r2 hM ?_⟩
    rw [KK_ret]
    refine bL_law_775 ⟨fun _ => ⟨fun _ => ?_, fun w => absurd (by decide) w⟩, fun w => absurd rfl w⟩
    exact go_on go r2 (fun s k h1 h2 => by unfold sAt; rw [u2_ne (by omega), u2_ne (by omega), u2_ne (by omega)]) hM hM2 (hI.cg (fun s k q => by rw [u2_ne (by omega)])).up (by omega) (by omega)
  · refine KK_hdl rfl rfl rfl (bL_stand_16 ?_)
    rw [KK_ret]
    refine bL_law_757 ⟨(rc_scr r).1, ix_in (k := 1) r hLL (by omega), by decide, q0 r hM, ?_⟩
    have ea0 := (ix_at (i := i) (k := 1) r hLL (by omega)).trans hx0
    rw [show Int32.ofNat (5 * i) + (1 : Int32) = Int32.ofNat (5 * i) + Int32.ofNat 1 from rfl, ea0]
    refine x_stand r hM hn hn35 hln hq hq60 hI.endh (fun w => absurd ⟨by rw [q1, o_i _ (by omega)]; omega, by rw [q1, o_i _ (by omega)]; omega⟩ w) (fun _ _ _ _ h2 r2 => ?_) (fun m' a1 a2 a3 => absurd a3 (by
        have e9 := o_inj (a1.symm.trans q1) (by omega) (by omega)
        subst e9
        exact q3))
    rw [KK_ret]
    refine bL_law_769 ⟨by decide, q0 r2 hM, x_thrown r2 hM ?_⟩
    rw [KK_ret]
    refine bL_law_775 ⟨fun _ => ⟨fun _ => ?_, fun w => absurd (by decide) w⟩, fun w => absurd rfl w⟩
    exact go_on go r2 (fun s k h1 h2 => by unfold sAt; rw [u2_ne (by omega), u2_ne (by omega), u2_ne (by omega)]) hM hM2 (hI.cg (fun s k q => by rw [u2_ne (by omega)])).up (by omega) (by omega)
theorem op_beat (hL : LI L xs Z0 i h) (hi : i < 512) (hin : 5 * i + 5 ≤ L) (hLL : L ≤ 2560) (go : GO L xs Z0 60 (i + 1) Q) {x : Int32} (hx0 : xs (5 * i + 1) = x) : WP 59 mL_beat 0 [some (.ref 2), some (.int x), some (.ref 253), none] [] h (KK 59 mL_law mL_beat 810 (lwL i u6 u7) [] Q) := by
  obtain ⟨e1, e3, M, G, C, Z, n, na, g, pa, pv, hr, hM, hM2, hI, hC, hZ⟩ := hL
  have hn := hI.1.1
  have hn35 := hI.1.2.1
  have hn5 : n ≤ 5 := by omega
  obtain ⟨qn, hq, hq60, _⟩ := id hI.2.2.2.2.2.2.2.2.1
  have hbl : ∀ m, m < n → ∃ l, M 12 m = Int32.ofNat l ∧ l ≤ 30 ∧ (M 11 m = 2 → ∀ o, o < n → o ≠ m → ∃ p, M 19 (5 * m + o) = Int32.ofNat p ∧ p ≤ l) := fun m hm => by
    obtain ⟨l, b1, b2⟩ := inv_lens hI m (by omega)
    refine ⟨l, b1, b2, fun w o ho hom => ?_⟩
    obtain ⟨p, c1, c2⟩ := (hI.2.2.2.1.2.2.2.1 m hm w).2.1 o ho hom
    rw [lgS_len, nt_of b1 (by omega)] at c2
    exact ⟨p, c1, c2⟩
  obtain ⟨v, hv⟩ := WP_pick (d := 58) (y := mX11_beat) (pc := 0) (lo := [some (.ref 2), some (.int x), none]) (stk := []) (h := h) oI 0 oI_inj (P := fun v o h' => (∃ m, x = Int32.ofNat m ∧ m < n ∧ (¬ M 5 m = 0 ∧ M 11 m = 2) ∧ o = oI (Int32.ofNat (beatN (sAt M v) m n)) ∧ ∃ e1' e3', RC ((beatP (stepS (sAt M v), G) m n).1) ((beatP (stepS (sAt M v), G) m n).2) (e1', 0, e3') (M, G, C, Z, L, xs) h') ∨ ((¬ (0 ≤ x.toInt ∧ x.toInt < n)) ∧ o = .inr 3 ∧ RC (sAt M v) G (e1, 0, e3) (M, G, C + 1, Z + 6, L, xs) h') ∨ ((∃ m, x = Int32.ofNat m ∧ m < n ∧ ¬ (¬ M 5 m = 0 ∧ M 11 m = 2)) ∧ o = .inr 2 ∧ RC (sAt M v) G (e1, 0, e3) (M, G, C + 1, Z + 6, L, xs) h')) (fun v => c_beat (rc_at hr) hn hn5 hq hq60 hbl (fun q h' r => Or.inr (Or.inl ⟨q, rfl, r⟩)) (fun m q1 q2 q3 h' r => Or.inr (Or.inr ⟨⟨m, q1, q2, q3⟩, rfl, r⟩)) (fun p q1 q2 q3 h' e1' r => Or.inl ⟨p, q1, q2, q3, rfl, e1', e3, r⟩))
  refine bL_beat_0 ⟨by decide, st_K_2 (rcS hr), hv.mono ?_⟩
  rintro o h' ⟨(⟨p, q1, q2, q3, rfl, e1', e3', r⟩ | ⟨q, rfl, r⟩ | ⟨⟨m, q1, q2, q3⟩, rfl, r⟩), hx'⟩
  · have _ := hI
    have ev := hx' _ rfl
    unfold oI
    rw [KK_ret]
    refine bL_beat_7 ⟨qK_c253 r hM hM2, inA_1 (qL_c253 r hM hM2), ?_⟩
    rw [ev, show (0 : Int32).toNatClampNeg = 0 from rfl, KK_ret]
    have r1 := rc_outL r v
    refine bL_law_813 ⟨(rc_scr r1).1, ix_in (k := 1) r1 hLL (by omega), by decide, q0 r1 hM, ?_⟩
    have ea0 := (ix_at (i := i) (k := 1) r1 hLL (by omega)).trans hx0
    rw [show Int32.ofNat (5 * i) + (1 : Int32) = Int32.ofNat (5 * i) + Int32.ofNat 1 from rfl, ea0]
    refine x_beat r1 hM hn hn35 hbl hq hq60 hI.endh (fun w => absurd ⟨by rw [q1, o_i _ (by omega)]; omega, by rw [q1, o_i _ (by omega)]; omega⟩ w) (fun m' a1 a2 a3 => absurd (by
        have e9 := o_inj (a1.symm.trans q1) (by omega) (by omega)
        subst e9
        exact q3) a3) (fun p' q1' q2' q3' h2 r2 => ?_)
    have ep : p' = p := o_inj (q1'.symm.trans q1) (by omega) (by omega)
    subst ep
    have iv := inv_beat (by omega) (hI.at (v := v)) q2 q3.2
    unfold sAt at iv
    rw [iv.noop] at r2
    have m1 : ((beatP (stepS (u2 (u2 M 1001 0 v) 50 0 0), G) p' n).1) 1000 0 = 0 := (hi_beat (by decide)).trans hM
    have m2 : ((beatP (stepS (u2 (u2 M 1001 0 v) 50 0 0), G) p' n).1) 1002 0 = 0 := (hi_beat (by decide)).trans hM2
    have m3 : ((beatP (stepS (u2 (u2 M 1001 0 v) 50 0 0), G) p' n).1) 1001 0 = v := (hi_beat (by decide)).trans rfl
    have m5 : ((beatP (stepS (u2 (u2 M 1001 0 v) 50 0 0), G) p' n).1) 50 0 = 0 := (hi_beat (by decide)).trans rfl
    rw [KK_ret]
    refine bL_law_825 ⟨by decide, q0 r2 m1, x_thrown r2 m1 ?_⟩
    rw [KK_ret, m5]
    refine bL_law_831 ⟨fun _ => ⟨fun w => absurd rfl w, fun _ => ⟨qK_c253 r2 m1 m2, inA_1 (qL_c253 r2 m1 m2), fun _ => ?_, fun w => absurd ?_ w⟩⟩, fun w => absurd rfl w⟩
    · exact go_on go r2 (fun _ _ _ _ => rfl) m1 m2 (iv) (by omega) (by omega)
    · have eo := qAL_c253 r2 m1 m2
      rw [show ((0 : Int32)).toNatClampNeg = 0 from rfl, eo, m3]
      have ev2 : Int32.ofNat (beatN (u2 M 1001 0 v) p' n) = v := by rw [beatN_at]; exact ev
      rw [ev2]
      exact lg_eq _
  · refine KK_hdl rfl rfl rfl (bL_beat_13 ?_)
    rw [KK_ret]
    refine bL_law_813 ⟨(rc_scr r).1, ix_in (k := 1) r hLL (by omega), by decide, q0 r hM, ?_⟩
    have ea0 := (ix_at (i := i) (k := 1) r hLL (by omega)).trans hx0
    rw [show Int32.ofNat (5 * i) + (1 : Int32) = Int32.ofNat (5 * i) + Int32.ofNat 1 from rfl, ea0]
    refine x_beat r hM hn hn35 hbl hq hq60 hI.endh (fun _ h2 r2 => ?_) (fun p q1 q2 => absurd ⟨by rw [q1, o_i _ (by omega)]; omega, by rw [q1, o_i _ (by omega)]; omega⟩ q) (fun p q1 q2 => absurd ⟨by rw [q1, o_i _ (by omega)]; omega, by rw [q1, o_i _ (by omega)]; omega⟩ q)
    rw [KK_ret]
    refine bL_law_825 ⟨by decide, q0 r2 hM, x_thrown r2 hM ?_⟩
    rw [KK_ret]
    refine bL_law_831 ⟨fun _ => ⟨fun _ => ?_, fun w => absurd (by decide) w⟩, fun w => absurd rfl w⟩
    exact go_on go r2 (fun s k h1 h2 => by unfold sAt; rw [u2_ne (by omega), u2_ne (by omega), u2_ne (by omega)]) hM hM2 (hI.cg (fun s k q => by rw [u2_ne (by omega)])).up (by omega) (by omega)
  · refine KK_hdl rfl rfl rfl (bL_beat_16 ?_)
    rw [KK_ret]
    refine bL_law_813 ⟨(rc_scr r).1, ix_in (k := 1) r hLL (by omega), by decide, q0 r hM, ?_⟩
    have ea0 := (ix_at (i := i) (k := 1) r hLL (by omega)).trans hx0
    rw [show Int32.ofNat (5 * i) + (1 : Int32) = Int32.ofNat (5 * i) + Int32.ofNat 1 from rfl, ea0]
    refine x_beat r hM hn hn35 hbl hq hq60 hI.endh (fun w => absurd ⟨by rw [q1, o_i _ (by omega)]; omega, by rw [q1, o_i _ (by omega)]; omega⟩ w) (fun _ _ _ _ h2 r2 => ?_) (fun m' a1 a2 a3 => absurd a3 (by
        have e9 := o_inj (a1.symm.trans q1) (by omega) (by omega)
        subst e9
        exact q3))
    rw [KK_ret]
    refine bL_law_825 ⟨by decide, q0 r2 hM, x_thrown r2 hM ?_⟩
    rw [KK_ret]
    refine bL_law_831 ⟨fun _ => ⟨fun _ => ?_, fun w => absurd (by decide) w⟩, fun w => absurd rfl w⟩
    exact go_on go r2 (fun s k h1 h2 => by unfold sAt; rw [u2_ne (by omega), u2_ne (by omega), u2_ne (by omega)]) hM hM2 (hI.cg (fun s k q => by rw [u2_ne (by omega)])).up (by omega) (by omega)
theorem op_propose (hL : LI L xs Z0 i h) (hi : i < 512) (hin : 5 * i + 5 ≤ L) (hLL : L ≤ 2560) (go : GO L xs Z0 60 (i + 1) Q) {x : Int32} (hx0 : xs (5 * i + 1) = x) {y : Int32} (hx1 : xs (5 * i + 2) = y) {z : Int32} (hx2 : xs (5 * i + 3) = z) : WP 59 mL_propose 0 [some (.ref 2), some (.int x), some (.int y), some (.int z), some (.ref 253), none] [] h (KK 59 mL_law mL_propose 1026 (lwL i u6 u7) [] Q) := by
  obtain ⟨e1, e3, M, G, C, Z, n, na, g, pa, pv, hr, hM, hM2, hI, hC, hZ⟩ := hL
  have hn := hI.1.1
  have hn35 := hI.1.2.1
  have hn5 : n ≤ 5 := by omega
  obtain ⟨qn, hq, hq60, _⟩ := id hI.2.2.2.2.2.2.2.2.1
  have hb27 : ∀ m j, m < n → j < 4 → -1 ≤ (M 27 (4 * m + j)).toInt ∧ (M 27 (4 * m + j)).toInt ≤ 100000 := fun m j hm hj => by
    have q := (hI.2.2.2.2.1 j hj).2.1 m hm
    have q1 : -1 ≤ (M 27 (4 * m + j)).toInt := q.1
    have q2 : (M 27 (4 * m + j)).toInt ≤ 8 * i + 8 := q.2
    omega
  obtain ⟨v, hv⟩ := WP_pick (d := 58) (y := mX11_propose) (pc := 0) (lo := [some (.ref 2), some (.int x), some (.int y), some (.int z), none]) (stk := []) (h := h) oI 0 oI_inj (P := fun v o h' => (∃ m j, x = Int32.ofNat m ∧ m < n ∧ y = Int32.ofNat j ∧ j < 4 ∧ (0 ≤ z.toInt ∧ z.toInt ≤ 999) ∧ ¬ M 5 m = 0 ∧ o = oI (nextB m (sAt M v 27 (4 * m + j))) ∧ ∃ e1' e3', RC ((propP (stepS (sAt M v), G) m n j z).1) ((propP (stepS (sAt M v), G) m n j z).2) (e1', 0, e3') (M, G, C, Z, L, xs) h') ∨ ((¬ ((0 ≤ x.toInt ∧ x.toInt < n) ∧ (0 ≤ y.toInt ∧ y.toInt < 4))) ∧ o = .inr 3 ∧ RC (sAt M v) G (e1, 0, e3) (M, G, C + 1, Z + 6, L, xs) h') ∨ ((∃ m j, x = Int32.ofNat m ∧ m < n ∧ y = Int32.ofNat j ∧ j < 4 ∧ ¬ (0 ≤ z.toInt ∧ z.toInt ≤ 999)) ∧ o = .inr 1 ∧ RC (sAt M v) G (e1, 0, e3) (M, G, C + 1, Z + 6, L, xs) h') ∨ ((∃ m j, x = Int32.ofNat m ∧ m < n ∧ y = Int32.ofNat j ∧ j < 4 ∧ (0 ≤ z.toInt ∧ z.toInt ≤ 999) ∧ M 5 m = 0) ∧ o = .inr 2 ∧ RC (sAt M v) G (e1, 0, e3) (M, G, C + 1, Z + 6, L, xs) h')) (fun v => c_propose (rc_at hr) hn hn5 hq hq60 hb27 (fun q h' r => Or.inr (Or.inl ⟨q, rfl, r⟩)) (fun m j q1 q2 q3 q4 q5 h' r => Or.inr (Or.inr (Or.inl ⟨⟨m, j, q1, q2, q3, q4, q5⟩, rfl, r⟩))) (fun m j q1 q2 q3 q4 q5 q6 h' r => Or.inr (Or.inr (Or.inr ⟨⟨m, j, q1, q2, q3, q4, q5, q6⟩, rfl, r⟩))) (fun m j q1 q2 q3 q4 q5 q6 h' e1' r => Or.inl ⟨m, j, q1, q2, q3, q4, q5, q6, rfl, e1', e3, r⟩))
  refine bL_propose_0 ⟨by decide, st_K_2 (rcS hr), hv.mono ?_⟩
  rintro o h' ⟨(⟨p, j, q1, q2, q3, q4, q5, q6, rfl, e1', e3', r⟩ | ⟨q, rfl, r⟩ | ⟨⟨m, j, q1, q2, q3, q4, q5⟩, rfl, r⟩ | ⟨⟨m, j, q1, q2, q3, q4, q5, q6⟩, rfl, r⟩), hx'⟩
  · have _ := hI
    have ev := hx' _ rfl
    unfold oI
    rw [KK_ret]
    refine bL_propose_10 ⟨qK_c253 r hM hM2, inA_1 (qL_c253 r hM hM2), ?_⟩
    rw [ev, show (0 : Int32).toNatClampNeg = 0 from rfl, KK_ret]
    have r1 := rc_outL r v
    refine bL_law_1029 ⟨(rc_scr r1).1, ix_in (k := 1) r1 hLL (by omega), ix_in (k := 2) r1 hLL (by omega), ix_in (k := 3) r1 hLL (by omega), by decide, q0 r1 hM, ?_⟩
    have ea0 := (ix_at (i := i) (k := 1) r1 hLL (by omega)).trans hx0
    have ea1 := (ix_at (i := i) (k := 2) r1 hLL (by omega)).trans hx1
    have ea2 := (ix_at (i := i) (k := 3) r1 hLL (by omega)).trans hx2
    rw [show Int32.ofNat (5 * i) + (1 : Int32) = Int32.ofNat (5 * i) + Int32.ofNat 1 from rfl, ea0, show Int32.ofNat (5 * i) + (2 : Int32) = Int32.ofNat (5 * i) + Int32.ofNat 2 from rfl, ea1, show Int32.ofNat (5 * i) + (3 : Int32) = Int32.ofNat (5 * i) + Int32.ofNat 3 from rfl, ea2]
    refine x_propose r1 hM hn hn35 hq hq60 hI.endh hb27 (fun w => absurd ⟨⟨by rw [q1, o_i _ (by omega)]; omega, by rw [q1, o_i _ (by omega)]; omega⟩, ⟨by rw [q3, o_i _ (by omega)]; omega, by rw [q3, o_i _ (by omega)]; omega⟩⟩ w) (fun _ _ _ _ _ _ a5 => absurd q5 a5) (fun m' j' a1 a2 a3 a4 a5 a6 => absurd a6 (by
        have e9 := o_inj (a1.symm.trans q1) (by omega) (by omega)
        subst e9
        exact q6)) (fun p' j' q1' q2' q3' q4' q5' q6' h2 r2 => ?_)
    have ep : p' = p := o_inj (q1'.symm.trans q1) (by omega) (by omega)
    subst ep
    have ej : j' = j := o_inj (q3'.symm.trans q3) (by omega) (by omega)
    subst ej
    have iv := inv_propose (by omega) (hI.at (v := v)) q2 q4 q5
    unfold sAt at iv
    rw [iv.noop] at r2
    have m1 : ((propP (stepS (u2 (u2 M 1001 0 v) 50 0 0), G) p' n j' z).1) 1000 0 = 0 := (hi_prop (by decide)).trans hM
    have m2 : ((propP (stepS (u2 (u2 M 1001 0 v) 50 0 0), G) p' n j' z).1) 1002 0 = 0 := (hi_prop (by decide)).trans hM2
    have m3 : ((propP (stepS (u2 (u2 M 1001 0 v) 50 0 0), G) p' n j' z).1) 1001 0 = v := (hi_prop (by decide)).trans rfl
    have m5 : ((propP (stepS (u2 (u2 M 1001 0 v) 50 0 0), G) p' n j' z).1) 50 0 = 0 := (hi_prop (by decide)).trans rfl
    rw [KK_ret]
    refine bL_law_1053 ⟨by decide, q0 r2 m1, x_thrown r2 m1 ?_⟩
    rw [KK_ret, m5]
    refine bL_law_1059 ⟨fun _ => ⟨fun w => absurd rfl w, fun _ => ⟨qK_c253 r2 m1 m2, inA_1 (qL_c253 r2 m1 m2), fun _ => ?_, fun w => absurd ?_ w⟩⟩, fun w => absurd rfl w⟩
    · exact go_on go r2 (fun _ _ _ _ => rfl) m1 m2 (iv) (by omega) (by omega)
    · have eo := qAL_c253 r2 m1 m2
      rw [show ((0 : Int32)).toNatClampNeg = 0 from rfl, eo, m3]
      have ev2 : nextB p' ((u2 M 1001 0 v) 27 (4 * p' + j')) = v := ev
      rw [ev2]
      exact lg_eq _
  · refine KK_hdl rfl rfl rfl (bL_propose_17 ?_)
    rw [KK_ret]
    refine bL_law_1029 ⟨(rc_scr r).1, ix_in (k := 1) r hLL (by omega), ix_in (k := 2) r hLL (by omega), ix_in (k := 3) r hLL (by omega), by decide, q0 r hM, ?_⟩
    have ea0 := (ix_at (i := i) (k := 1) r hLL (by omega)).trans hx0
    have ea1 := (ix_at (i := i) (k := 2) r hLL (by omega)).trans hx1
    have ea2 := (ix_at (i := i) (k := 3) r hLL (by omega)).trans hx2
    rw [show Int32.ofNat (5 * i) + (1 : Int32) = Int32.ofNat (5 * i) + Int32.ofNat 1 from rfl, ea0, show Int32.ofNat (5 * i) + (2 : Int32) = Int32.ofNat (5 * i) + Int32.ofNat 2 from rfl, ea1, show Int32.ofNat (5 * i) + (3 : Int32) = Int32.ofNat (5 * i) + Int32.ofNat 3 from rfl, ea2]
    refine x_propose r hM hn hn35 hq hq60 hI.endh hb27 (fun _ h2 r2 => ?_) (fun p j q1 q2 q3 q4 => absurd ⟨⟨by rw [q1, o_i _ (by omega)]; omega, by rw [q1, o_i _ (by omega)]; omega⟩, ⟨by rw [q3, o_i _ (by omega)]; omega, by rw [q3, o_i _ (by omega)]; omega⟩⟩ q) (fun p j q1 q2 q3 q4 => absurd ⟨⟨by rw [q1, o_i _ (by omega)]; omega, by rw [q1, o_i _ (by omega)]; omega⟩, ⟨by rw [q3, o_i _ (by omega)]; omega, by rw [q3, o_i _ (by omega)]; omega⟩⟩ q) (fun p j q1 q2 q3 q4 => absurd ⟨⟨by rw [q1, o_i _ (by omega)]; omega, by rw [q1, o_i _ (by omega)]; omega⟩, ⟨by rw [q3, o_i _ (by omega)]; omega, by rw [q3, o_i _ (by omega)]; omega⟩⟩ q)
    rw [KK_ret]
    refine bL_law_1053 ⟨by decide, q0 r2 hM, x_thrown r2 hM ?_⟩
    rw [KK_ret]
    refine bL_law_1059 ⟨fun _ => ⟨fun _ => ?_, fun w => absurd (by decide) w⟩, fun w => absurd rfl w⟩
    exact go_on go r2 (fun s k h1 h2 => by unfold sAt; rw [u2_ne (by omega), u2_ne (by omega), u2_ne (by omega)]) hM hM2 (hI.cg (fun s k q => by rw [u2_ne (by omega)])).up (by omega) (by omega)
  · refine KK_hdl rfl rfl rfl (bL_propose_21 ?_)
    rw [KK_ret]
    refine bL_law_1029 ⟨(rc_scr r).1, ix_in (k := 1) r hLL (by omega), ix_in (k := 2) r hLL (by omega), ix_in (k := 3) r hLL (by omega), by decide, q0 r hM, ?_⟩
    have ea0 := (ix_at (i := i) (k := 1) r hLL (by omega)).trans hx0
    have ea1 := (ix_at (i := i) (k := 2) r hLL (by omega)).trans hx1
    have ea2 := (ix_at (i := i) (k := 3) r hLL (by omega)).trans hx2
    rw [show Int32.ofNat (5 * i) + (1 : Int32) = Int32.ofNat (5 * i) + Int32.ofNat 1 from rfl, ea0, show Int32.ofNat (5 * i) + (2 : Int32) = Int32.ofNat (5 * i) + Int32.ofNat 2 from rfl, ea1, show Int32.ofNat (5 * i) + (3 : Int32) = Int32.ofNat (5 * i) + Int32.ofNat 3 from rfl, ea2]
    refine x_propose r hM hn hn35 hq hq60 hI.endh hb27 (fun w => absurd ⟨⟨by rw [q1, o_i _ (by omega)]; omega, by rw [q1, o_i _ (by omega)]; omega⟩, ⟨by rw [q3, o_i _ (by omega)]; omega, by rw [q3, o_i _ (by omega)]; omega⟩⟩ w) (fun _ _ _ _ _ _ _ h2 r2 => ?_) (fun _ _ _ _ _ _ a5 => absurd a5 q5) (fun _ _ _ _ _ _ a5 => absurd a5 q5)
    rw [KK_ret]
    refine bL_law_1053 ⟨by decide, q0 r2 hM, x_thrown r2 hM ?_⟩
    rw [KK_ret]
    refine bL_law_1059 ⟨fun _ => ⟨fun _ => ?_, fun w => absurd (by decide) w⟩, fun w => absurd rfl w⟩
    exact go_on go r2 (fun s k h1 h2 => by unfold sAt; rw [u2_ne (by omega), u2_ne (by omega), u2_ne (by omega)]) hM hM2 (hI.cg (fun s k q => by rw [u2_ne (by omega)])).up (by omega) (by omega)
  · refine KK_hdl rfl rfl rfl (bL_propose_25 ?_)
    rw [KK_ret]
    refine bL_law_1029 ⟨(rc_scr r).1, ix_in (k := 1) r hLL (by omega), ix_in (k := 2) r hLL (by omega), ix_in (k := 3) r hLL (by omega), by decide, q0 r hM, ?_⟩
    have ea0 := (ix_at (i := i) (k := 1) r hLL (by omega)).trans hx0
    have ea1 := (ix_at (i := i) (k := 2) r hLL (by omega)).trans hx1
    have ea2 := (ix_at (i := i) (k := 3) r hLL (by omega)).trans hx2
    rw [show Int32.ofNat (5 * i) + (1 : Int32) = Int32.ofNat (5 * i) + Int32.ofNat 1 from rfl, ea0, show Int32.ofNat (5 * i) + (2 : Int32) = Int32.ofNat (5 * i) + Int32.ofNat 2 from rfl, ea1, show Int32.ofNat (5 * i) + (3 : Int32) = Int32.ofNat (5 * i) + Int32.ofNat 3 from rfl, ea2]
    refine x_propose r hM hn hn35 hq hq60 hI.endh hb27 (fun w => absurd ⟨⟨by rw [q1, o_i _ (by omega)]; omega, by rw [q1, o_i _ (by omega)]; omega⟩, ⟨by rw [q3, o_i _ (by omega)]; omega, by rw [q3, o_i _ (by omega)]; omega⟩⟩ w) (fun _ _ _ _ _ _ a5 => absurd q5 a5) (fun _ _ _ _ _ _ _ _ h2 r2 => ?_) (fun m' j' a1 a2 a3 a4 a5 a6 => absurd (by
        have e9 := o_inj (a1.symm.trans q1) (by omega) (by omega)
        subst e9
        exact q6) a6)
    rw [KK_ret]
    refine bL_law_1053 ⟨by decide, q0 r2 hM, x_thrown r2 hM ?_⟩
    rw [KK_ret]
    refine bL_law_1059 ⟨fun _ => ⟨fun _ => ?_, fun w => absurd (by decide) w⟩, fun w => absurd rfl w⟩
    exact go_on go r2 (fun s k h1 h2 => by unfold sAt; rw [u2_ne (by omega), u2_ne (by omega), u2_ne (by omega)]) hM hM2 (hI.cg (fun s k q => by rw [u2_ne (by omega)])).up (by omega) (by omega)
end LAWDA
