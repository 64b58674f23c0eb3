/-! ===== the law ===== -/
section LAWZ
variable {h : HP} {Q : Out → HP → Prop} {L Z0 i : Nat} {xs : Nat → Int32}
def QF (o : Out) (h : HP) : Prop := o = .inl (some (.int (1 : Int32))) ∧ hC h ≤ 601024 ∧ hZ h ≤ 7293034
theorem sub5 (hL : L ≤ 2560) : (Int32.ofNat L - (5 : Int32)).toInt = (L : Int) - 5 := by
  rw [Int32.toInt_sub, o_i _ (by omega)]
  have e : (5 : Int32).toInt = 5 := by decide
  rw [e]
  simp only [Int.bmod]
  split <;> omega
theorem law_step (hL : LI L xs Z0 i h) (hi : i < 512) (hin : 5 * i + 5 ≤ L) (hLL : L ≤ 2560) (go : GO L xs Z0 60 (i + 1) Q) {u6 u7 : Option Value} : WP 60 mL_law 28 (lwL i u6 u7) [] h Q := by
  obtain ⟨e1, e3, M, G, C, Z, n, na, g, pa, pv, hr, hM, hM2, hI, hC, hZ⟩ := id hL
  obtain ⟨s1, s2, s3⟩ := rc_scr hr
  have J : ∀ k, k < 5 → inA h 1 (Int32.ofNat (5 * i) + Int32.ofNat k) = true := fun k hk => ix_in hr hLL (by omega)
  have B1 : hAI h 1 (Int32.ofNat (5 * i) + (1 : Int32)).toNatClampNeg = xs (5 * i + 1) := ix_at (i := i) (k := 1) hr hLL (by omega)
  have B2 : hAI h 1 (Int32.ofNat (5 * i) + (2 : Int32)).toNatClampNeg = xs (5 * i + 2) := ix_at (i := i) (k := 2) hr hLL (by omega)
  have B3 : hAI h 1 (Int32.ofNat (5 * i) + (3 : Int32)).toNatClampNeg = xs (5 * i + 3) := ix_at (i := i) (k := 3) hr hLL (by omega)
  have B4 : hAI h 1 (Int32.ofNat (5 * i) + (4 : Int32)).toNatClampNeg = xs (5 * i + 4) := ix_at (i := i) (k := 4) hr hLL (by omega)
  refine bL_law_28 ⟨by rw [s1]; decide, fun w => ?_, fun _ => ⟨s1, inA_o s2 (by omega) (by omega), fun _ => ⟨J 1 (by decide), by rw [B1]; exact op_begin hL hi hin hLL go rfl⟩, fun _ => ⟨J 1 (by decide), by rw [B1]; exact op_toggle hL hi hin hLL go rfl⟩, fun _ => ⟨J 1 (by decide), J 2 (by decide), by rw [B1, B2]; exact op_cut hL hi hin hLL go rfl rfl⟩, fun _ => ⟨J 1 (by decide), J 2 (by decide), by rw [B1, B2]; exact op_rate hL hi hin hLL go rfl rfl⟩, fun _ => ⟨J 1 (by decide), J 2 (by decide), by rw [B1, B2]; exact op_spans hL hi hin hLL go rfl rfl⟩, fun _ => ⟨J 1 (by decide), by rw [B1]; exact op_pass hL hi hin hLL go rfl⟩, fun _ => ⟨J 1 (by decide), by rw [B1]; exact op_deliver hL hi hin hLL go rfl⟩, fun _ => ⟨J 1 (by decide), by rw [B1]; exact op_lose hL hi hin hLL go rfl⟩, fun _ => ⟨J 1 (by decide), by rw [B1]; exact op_twice hL hi hin hLL go rfl⟩, fun _ => ⟨J 1 (by decide), by rw [B1]; exact op_stand hL hi hin hLL go rfl⟩, fun _ => ⟨J 1 (by decide), by rw [B1]; exact op_beat hL hi hin hLL go rfl⟩, fun _ => ⟨J 1 (by decide), J 2 (by decide), J 3 (by decide), J 4 (by decide), by rw [B1, B2, B3, B4]; exact op_request hL hi hin hLL go rfl rfl rfl rfl⟩, fun _ => ⟨J 1 (by decide), by rw [B1]; exact op_read hL hi hin hLL go rfl⟩, fun _ => ⟨J 1 (by decide), J 2 (by decide), J 3 (by decide), by rw [B1, B2, B3]; exact op_propose hL hi hin hLL go rfl rfl rfl⟩, fun _ => ⟨by decide, st_K_2 (rcS hr), op_steps hL hi go⟩, fun _ => ⟨by decide, st_K_2 (rcS hr), op_messages hL hi go⟩, fun _ => ⟨J 1 (by decide), J 2 (by decide), by rw [B1, B2]; exact op_message hL hi hin hLL go rfl rfl⟩, fun _ => ⟨J 1 (by decide), J 2 (by decide), by rw [B1, B2]; exact op_of hL hi hin hLL go rfl rfl⟩, fun _ => ⟨J 1 (by decide), J 2 (by decide), J 3 (by decide), by rw [B1, B2, B3]; exact op_entry hL hi hin hLL go rfl rfl rfl⟩, fun _ => ⟨J 1 (by decide), by rw [B1]; exact op_clock hL hi hin hLL go rfl⟩, fun _ => ⟨J 1 (by decide), by rw [B1]; exact op_lease hL hi hin hLL go rfl⟩, fun _ => ⟨by decide, st_K_2 (rcS hr), op_leases hL hi go⟩, fun _ => ⟨J 1 (by decide), J 2 (by decide), J 3 (by decide), by rw [B1, B2, B3]; exact op_decision hL hi hin hLL go rfl rfl rfl⟩, fun _ => ⟨by decide, st_K_2 (rcS hr), op_acts hL hi go⟩, fun _ => ⟨J 1 (by decide), J 2 (by decide), by rw [B1, B2]; exact op_act hL hi hin hLL go rfl rfl⟩, fun _ => ⟨by decide, st_K_2 (rcS hr), op_isInOrder hL hi go⟩, fun _ => ⟨by decide, st_K_2 (rcS hr), op_isAgreed hL hi go⟩, fun _ => ?_⟩⟩
  · rw [s2] at w
    have := Int32.lt_iff_toInt_lt.mp w
    rw [sub5 hLL, o_i _ (by omega)] at this
    omega
  · exact go_on go hr (fun _ _ _ _ => rfl) hM hM2 hI.up (by omega) (by omega)
theorem law_all (hLL : L ≤ 2560) (hZ0 : Z0 ≤ 7000000) : ∀ (m i : Nat) (h : HP) (u6 u7 : Option Value), L < 5 * i + 5 * m + 5 → i ≤ 512 → LI L xs Z0 i h → WP 60 mL_law 28 (lwL i u6 u7) [] h QF := by
  intro m
  induction m with
  | zero =>
    intro i h u6 u7 hi h512 hL
    obtain ⟨e1, e3, M, G, C, Z, n, na, g, pa, pv, hr, hM, hM2, hI, hCb, hZb⟩ := hL
    obtain ⟨s1, s2, s3⟩ := rc_scr hr
    have t := rmT hr
    have t1 : hC h = C := t.1
    have t2 : hZ h = Z := t.2.1
    have lt : Int32.ofNat (hL h 1) - (5 : Int32) < Int32.ofNat (5 * i) := by
      rw [s2, Int32.lt_iff_toInt_lt, sub5 hLL, o_i _ (by omega)]
      omega
    exact bL_law_28 ⟨by rw [s1]; decide, fun _ => ⟨rfl, by omega, by omega⟩, fun w => absurd lt w⟩
  | succ m ih =>
    intro i h u6 u7 hi h512 hL
    by_cases hin : 5 * i + 5 ≤ L
    · exact law_step hL (by omega) hin hLL (fun h' v6 v7 hL' => ih (i + 1) h' v6 v7 (by omega) (by omega) hL')
    · obtain ⟨e1, e3, M, G, C, Z, n, na, g, pa, pv, hr, hM, hM2, hI, hCb, hZb⟩ := hL
      obtain ⟨s1, s2, s3⟩ := rc_scr hr
      have t := rmT hr
      have t1 : hC h = C := t.1
      have t2 : hZ h = Z := t.2.1
      have lt : Int32.ofNat (hL h 1) - (5 : Int32) < Int32.ofNat (5 * i) := by
        rw [s2, Int32.lt_iff_toInt_lt, sub5 hLL, o_i _ (by omega)]
        omega
      exact bL_law_28 ⟨by rw [s1]; decide, fun _ => ⟨rfl, by omega, by omega⟩, fun w => absurd lt w⟩
theorem mRef_z {s k : Nat} (h1 : s < 48) (c : ¬ (s = 0 ∧ k = 0)) : mRef s k = zS s k := by
  unfold mRef
  rw [u2_ne (by omega), u2_ne (by omega)]
theorem begin_z {s k : Nat} (h1 : s < 48) : u2 (beginS mRef 3) 1002 0 0 s k = beginS zS 3 s k := by
  rw [u2_ne (by omega)]
  by_cases c : s = 0 ∧ k = 0
  · unfold beginS
    rw [if_pos c, if_pos c]
  · unfold beginS
    rw [mRef_z h1 c]
theorem beginF_z : beginF gRef = beginF zF := by
  funext s k
  by_cases c : s = 2 ∧ k = 0
  · obtain ⟨rfl, rfl⟩ := c
    rfl
  · unfold beginF gRef
    rw [u2_ne (by omega)]
theorem base_ref : BASE mRef gRef := ⟨fun _ _ => Or.inl rfl, fun _ _ => ⟨Or.inl rfl, ⟨0, rfl, by decide⟩, ⟨0, rfl, by decide⟩, show (-1 : Int) ≤ (0 : Int32).toInt by decide⟩, fun _ _ w => absurd (show (0 : Int32) = 1 from w) (by decide)⟩
theorem li_start {e : EX} {z : Nat} {e1 : Int32} (hr : RC (beginS zS 3) (beginF zF) (e1, 0, eFst) (beginS mRef 3, beginF gRef, 251, z, L, xs) h) (hn : hN h = 253) : LI L xs (z + 2) 0 (nw (nw h 23 1 1) 24 1 1) := by
  have n1 : hN (nw h 23 1 1) = 254 := by rw [hN_nw, hn]
  have q := rc_ext (h' := nw (nw h 23 1 1) 24 1 1) hr (fun f b hb => by rw [nw_I (by omega), nw_I hb]) (fun f b hb => by rw [nw_F (by omega), nw_F hb]) (fun f b hb => by rw [nw_R (by omega), nw_R hb]) (fun b hb => by rw [nw_AI (by omega), nw_AI hb]) (fun b hb => by rw [nw_AF (by omega), nw_AF hb]) (fun b hb => by rw [nw_AR (by omega), nw_AR hb]) (fun b hb => by rw [nw_K (by omega), nw_K hb]) (fun b hb => by rw [nw_L (by omega), nw_L hb]) (by rw [hN_nw, hN_nw]; omega) (by rw [hN_nw, hN_nw, hC_nw, hC_nw]; omega) (fun b hb => by rw [nw_AL (by omega), nw_AL hb]) (fun b hb => by rw [nw_AD (by omega), nw_AD hb])
  have t := rmT hr
  have c1 : hC (nw (nw h 23 1 1) 24 1 1) = 253 := by
    rw [hC_nw, hC_nw]
    have : hC h = 251 := t.1
    omega
  have z1 : hZ (nw (nw h 23 1 1) 24 1 1) = z + 2 := by
    rw [hZ_nw, hZ_nw]
    have : hZ h = z := t.2.1
    omega
  rw [c1, z1] at q
  have q2 : RC (beginS zS 3) (beginF zF) (e1, 0, eFst) (u2 (beginS mRef 3) 1002 0 0, beginF gRef, 253, z + 2, L, xs) (nw (nw h 23 1 1) 24 1 1) := by
    obtain ⟨hs, hrow, hm, hl, hle, hc, hnet, hh, hg, g1, g2, g3, g4, g5, g6, g7, g8⟩ := q
    refine ⟨hs, hrow, hm, hl, hle, hc, hnet, hh, hg, g1, g2, g3, g4, g5, g6, g7, fun K => ⟨(g8 K).1, fun _ => ⟨?_, ?_, ?_, ?_, ?_, ?_, ?_⟩⟩⟩
    · rw [hK_nw, if_neg (by omega), hK_nw, if_pos hn.symm]
    · rw [hL_nw, if_neg (by omega), hL_nw, if_pos hn.symm]
    · rw [hK_nw, if_pos n1.symm]
    · rw [hL_nw, if_pos n1.symm]
    · rw [hN_nw]; omega
    · rw [hAL_nw, if_neg (by omega), hAL_nw, if_pos hn.symm]; rfl
    · rw [hAD_nw, if_pos n1.symm]
      show (0 : UInt64) = FP.f2d (0 : UInt32)
      decide +kernel
  rw [← beginF_z] at q2
  obtain ⟨e1', q3⟩ := rc_swap (S' := u2 (beginS mRef 3) 1002 0 0) q2 (fun s k h1 _ => begin_z h1)
  exact ⟨e1', eFst, u2 (beginS mRef 3) 1002 0 0, beginF gRef, 253, z + 2, nt 3, 0, g0, pa0, pv0, q3, by simp [beginS, mRef, zS, u2], by simp [u2], (inv_begin (st := 0) base_ref (Or.inl rfl)).cg (fun s k h1 => u2_ne (by omega)), by omega, by omega⟩
theorem law_runs (hLL : L ≤ 2560) : WP 60 mL_law 0 [some (.ref 1), none, none, none, none, none, none, none] [] (h00 L xs) QF := by
  refine bL_law_0 ⟨show 1 < 2 by decide, ?_⟩
  show WP 59 mX11_init 0 [some (.ref 2), none] [] (nw (h00 L xs) 11 0 6) (KK 59 mL_law mX11_init 4 [some (.ref 1), none, none, none, none, none, none, none] [.ref 2] QF)
  refine w_X11init (h0 := h00 L xs) rfl rfl rfl ?_
  intro h1 e1' r hz hn
  rw [KK_ret]
  refine bL_law_7 ⟨by omega, ?_⟩
  rw [hn]
  have r' : RC (beginS zS 3) (beginF zF) (e1', 0, eFst) (mFst, zF, 208, hZ h1, L, xs) h1 := r
  refine x_X12init r' hn ?_
  intro h2 r2 hn2 hz2
  rw [KK_ret]
  refine bL_law_15 ?_
  have z0 : hZ (h00 L xs) = 0 := rfl
  have n1 : hN (nw h2 23 1 1) = 254 := by rw [hN_nw, hn2]
  rw [n1, hn2, show (0 : Int32) = Int32.ofNat (5 * 0) from rfl]
  exact law_all hLL (Z0 := hZ h2 + 2) (by omega) 512 0 _ none none (by omega) (by omega) (li_start (e := (0, 0, eFst)) r2 hn2)
end LAWZ
