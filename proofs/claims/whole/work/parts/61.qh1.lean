/-! ===== the calls of the class: what is thrown, the bench, the net ===== -/
theorem KK_exc {d : Nat} {y z : MI} {pc : Nat} {lo : Lo} {rest : List Value} {Q : Out → HP → Prop} {e : Nat} {h1 : HP} (hz : mHH z = []) (hi : mIni z = false) (hy : mHH y = []) (q : Q (.inr e) h1) : KK d y z pc lo rest Q (.inr e) h1 := by
  have h0 : hnd y pc e = none := by unfold hnd; rw [hy]; rfl
  show (if (mHH z).isEmpty = true ∧ mIni z = false then (match hnd y pc e with
    | none => (mHH y).isEmpty = true ∧ Q (.inr e) h1
    | some _ => (match hdl y pc e lo with
      | some (pc', lo') => WP (d + 1) y pc' lo' [] h1 Q
      | none => False)) else False)
  rw [if_pos ⟨by rw [hz]; rfl, hi⟩, h0]
  exact ⟨by rw [hy]; rfl, q⟩
/-- the bundle when one exception has been made -/
def thX (X : MX) : MX := (X.1, X.2.1, X.2.2.1 + 1, X.2.2.2.1 + 6, X.2.2.2.2)
section QHA
variable {S : SI} {F : SF} {e : EX} {X : MX} {h : HP} {d : Nat} {Q : Out → HP → Prop} {e1 : Int32} {e3 : RW × UInt32} {n : Nat}
theorem rc_thr (hr : RC S F e X h) : RC S F e (thX X) (thr h) := by
  obtain ⟨hs, hrow, hm, hl, hle, hc, hn, hh, hg, g1, g2, g3, g4, g5, g6, g7⟩ := hr
  exact ⟨hs, hrow, hm, hl, hle, hc, hn, hh, hg, g1, g2, by show hC h + 1 = X.2.2.1 + 1; rw [g3], by show hZ h + 6 = X.2.2.2.1 + 6; rw [g4], g5, g6, ⟨g7.1.1, Nat.le_succ_of_le g7.1.2.1, g7.1.2.2⟩, g7.2⟩
theorem o_in {x : Int32} {n : Nat} (h : 0 ≤ x.toInt ∧ x.toInt < n) (hn : n < 1000000) : ∃ m, x = Int32.ofNat m ∧ m < n := by
  obtain ⟨m, hm, h1, h2⟩ := o_of (x := x) (b := n) h.1 (by omega)
  exact ⟨m, hm, by omega⟩
theorem w_needMachine (hr : RC S F e X h) (hn : S 0 0 = Int32.ofNat n) (hn5 : n ≤ 5) {x : Int32} (k3 : ¬ (0 ≤ x.toInt ∧ x.toInt < n) → Q (.inr 3) (thr h)) (k : ∀ m, x = Int32.ofNat m → m < n → Q (.inl (some (.ref (150 + 12 * m)))) h) : WP d mX11_needMachine 0 [some (.ref 2), some (.int x)] [] h Q := by
  have hs := rcS hr
  refine bX11_needMachine_0 ?_
  rw [st_R_1101_2 hs, rd_n hr, hn, st_R_1100_2 hs, st_K_3 hs, Int32.lt_iff_toInt_lt, i_zero, Int32.lt_iff_toInt_lt, o_i _ (by omega)]
  refine ⟨fun c => k3 (by omega), fun c => ⟨st_K_2 hs, st_K_4 hs, fun c2 => ?_, fun c2 => k3 (by omega)⟩⟩
  obtain ⟨m, hm, hmn⟩ := o_in (x := x) (n := n) ⟨by omega, c2⟩ (by omega)
  have := k m hm hmn
  subst hm
  rw [o_c _ (by omega), st_AR_3_e hs (by omega)]
  exact ⟨⟨by decide, by decide⟩, inA_o (st_L_3 hs) (by omega) (by decide), this⟩
theorem w_needChoice (hr : RC S F e X h) {m : Nat} (hm : m < 5) {x : Int32} (k3 : ¬ (0 ≤ x.toInt ∧ x.toInt < 4) → Q (.inr 3) (thr h)) (k : ∀ j, x = Int32.ofNat j → j < 4 → Q (.inl (some (.ref (158 + 12 * m + j)))) h) : WP d mX11_needChoice 0 [some (.ref 2), some (.ref (150 + 12 * m)), some (.int x)] [] h Q := by
  have hs := rcS hr
  refine bX11_needChoice_0 ?_
  rw [st_R_803_150 hs hm, st_K_157 hs hm, Int32.lt_iff_toInt_lt, i_zero, Int32.lt_iff_toInt_lt, show (4 : Int32).toInt = 4 from rfl]
  refine ⟨fun c => k3 (by omega), fun c => ⟨fun c2 => ?_, fun c2 => k3 (by omega)⟩⟩
  obtain ⟨j, hj, hjn⟩ := o_in (x := x) (n := 4) ⟨by omega, c2⟩ (by omega)
  have := k j hj hjn
  subst hj
  rw [o_c _ (by omega), st_AR_157_e hs hm hjn]
  exact ⟨st_K_150 hs hm, ⟨by decide, by decide⟩, inA_o (st_L_157 hs hm) (by omega) (by decide), this⟩
theorem w_needRange {x lo hi : Int32} (k1 : ¬ (lo.toInt ≤ x.toInt ∧ x.toInt ≤ hi.toInt) → Q (.inr 1) (thr h)) (k : lo.toInt ≤ x.toInt → x.toInt ≤ hi.toInt → Q (.inl none) h) : WP d mX11_needRange 0 [some (.int x), some (.int lo), some (.int hi)] [] h Q := by
  refine bX11_needRange_0 ?_
  rw [Int32.lt_iff_toInt_lt, Int32.le_iff_toInt_le]
  exact ⟨fun c => k1 (by omega), fun c => ⟨fun c2 => k (by omega) c2, fun c2 => k1 (by omega)⟩⟩
theorem w_needMessage (hr : RC S F (e1, 0, e3) X h) (hn : S 39 0 = Int32.ofNat n) (hn60 : n ≤ 60) {x : Int32} {u : Option Value} (k3 : ¬ (0 ≤ x.toInt ∧ x.toInt < n) → Q (.inr 3) (thr h)) (k : ∀ p, x = Int32.ofNat p → p < n → Q (.inl (some (.ref (hAR h 5 p)))) h) : WP (d + 1) mX11_needMessage 0 [some (.ref 2), some (.int x), u] [] h Q := by
  have hs := rcS hr
  have hc : hI h 1001 4 = Int32.ofNat n := by rw [rd_cnt hr, hn]; exact Int32.add_zero _
  refine bX11_needMessage_0 ?_
  rw [st_R_1101_2 hs]
  refine ⟨st_K_2 hs, by decide, st_K_4 hs, bX10_at_0 ?_⟩
  rw [hc, Int32.lt_iff_toInt_lt, i_zero, Int32.le_iff_toInt_le, o_i _ (by omega), st_R_1003_4 hs, st_K_5 hs]
  have ex0 : ¬ (0 ≤ x.toInt ∧ x.toInt < n) → KK d mX11_needMessage mX10_at 5 [some (.ref 2), some (.int x), u] [] Q (.inl (some (.ref 0))) h := fun c => by
    rw [KK_ret]
    exact bX11_needMessage_8 ⟨fun q => absurd rfl q, fun _ => k3 c⟩
  refine ⟨fun c => ex0 (by omega), fun c => ⟨st_K_4 hs, fun c2 => ex0 (by omega), fun c2 => ?_⟩⟩
  obtain ⟨p, hp, hpn⟩ := o_in (x := x) (n := n) ⟨by omega, by omega⟩ (by omega)
  have := k p hp hpn
  subst hp
  rw [o_c _ (by omega), KK_ret]
  have hm := mset_hi ((rcR hr).1 p (by omega))
  exact ⟨⟨by decide, by decide⟩, inA_o (st_L_5 hs) (by omega) (by decide), bX11_needMessage_8 ⟨fun _ => this, fun q => absurd (by omega) q⟩⟩
theorem c_toggle (hr : RC S F e X h) (hn : S 0 0 = Int32.ofNat n) (hn5 : n ≤ 5) {x : Int32} {u : Option Value} (hz : ∀ m, m < n → S 5 m = 0 ∨ S 5 m = 1) (hnn : ∀ m, m < n → nn32 (FP.fadd (F 7 m) (F 2 0)) = true) (k3 : ¬ (0 ≤ x.toInt ∧ x.toInt < n) → ∀ h', RC S F e (thX X) h' → Q (.inr 3) h') (k : ∀ m, x = Int32.ofNat m → m < n → ∀ h', RC (toggleP (stepS S, F) m).1 (toggleP (stepS S, F) m).2 e X h' → Q (.inl (some (.int (if S 5 m = 1 then 0 else 1)))) h') : WP (d + 3) mX11_toggle 0 [some (.ref 2), some (.int x), u] [] h Q := by
  have hs := rcS hr
  refine bX11_toggle_0 ⟨by decide, st_K_2 hs, w_needMachine hr hn hn5 (fun c => KK_exc rfl rfl rfl (k3 c _ (rc_thr hr))) ?_⟩
  intro m hm hmn
  have km := k m hm hmn
  rw [KK_ret]
  refine bX11_toggle_5 ?_
  rw [st_R_1104_2 hs]
  refine ⟨st_K_2 hs, by decide, st_K_133 hs, w_goOn hr ?_⟩
  intro h1 hr1 er1 ear1
  have hs1 := rcS hr1
  rw [KK_ret]
  refine bX11_toggle_13 ⟨st_K_150 hs1 (by omega), ?_⟩
  rw [rd_up hr1 (by omega), st_R_1102_2 hs1]
  have e5 : stepS S 5 m = S 5 m := rfl
  have eF : hF h1 602 131 = F 2 0 := (rcG hr1).2.1
  rw [e5, eF]
  have fin : ∀ (P : PT) (v : Int32), P.1 5 m = v → isZ v = true → (if S 5 m = 1 then 0 else 1) = v → P = toggleP (stepS S, F) m → ∀ h2, RC P.1 P.2 e X h2 → WP (d + 3) mX11_toggle 38 [some (.ref 2), some (.int x), some (.ref (150 + 12 * m))] [] h2 Q := by
    intro P v h1 h2 h3 h4 h5 h6
    refine bX11_toggle_38 ⟨st_K_150 (rcS h6) (by omega), ?_⟩
    rw [rd_up h6 (by omega), h1]
    rw [h3, ← h4] at km
    exact ⟨h2, km _ h6⟩
  refine ⟨fun c => ⟨st_K_2 hs1, st_K_131 hs1, by omega, w_rise hr1 (by omega) (hnn m hmn) ?_⟩, fun c => ⟨by omega, w_crash hr1 (by omega) ?_⟩⟩
  · intro h2 hr2
    rw [KK_ret]
    have c1 : ¬ S 5 m = 1 := by rw [c]; decide
    refine fin (riseS (stepS S) m, riseF F m) 1 ?_ rfl (if_neg c1) ?_ h2 hr2
    · show u2 (u2 (stepS S) 5 m 1) 25 m (Int32.ofNat m) 5 m = 1
      rw [u2_ne (by omega), u2_eq]
    · unfold toggleP
      rw [if_neg (show ¬ stepS S 5 m = 1 from c1)]
  · intro h2 hr2
    rw [KK_ret]
    have c1 : S 5 m = 1 := (hz m hmn).resolve_left c
    refine bX11_toggle_24 (fin (crashS (stepS S) m, F) 0 ?_ rfl (if_pos c1) ?_ h2 ?_)
    · show crashS (stepS S) m 5 m = 0
      unfold crashS dropS
      rw [if_neg (by omega)]
      unfold followS
      rw [u2_ne (by omega), u2_ne (by omega), u2_ne (by omega), u2_eq]
    · unfold toggleP
      rw [if_pos (show stepS S 5 m = 1 from c1)]
    · have ec : crashS (stepS S) m = dropS (followS (u2 (u2 (stepS S) 5 m 0) 13 m 0) m) m := by
        unfold crashS
        congr 1
        funext s q
        unfold followS u2
        by_cases a1 : s = 13 ∧ q = m
        · rw [if_pos a1, if_neg (by omega), if_neg (by omega), if_pos a1]
        · rw [if_neg a1]
          by_cases a2 : s = 23 ∧ q = m
          · rw [if_pos a2, if_pos a2]
          · rw [if_neg a2, if_neg a2]
            by_cases a3 : s = 11 ∧ q = m
            · rw [if_pos a3, if_pos a3]
            · rw [if_neg a3, if_neg a3, if_neg a1]
      show RC (crashS (stepS S) m) F e X h2
      rw [ec]
      exact hr2
theorem w_isCut (hr : RC S F e X h) {a b : Nat} (ha : a < 5) (hb : b < 5) (hz : S 6 (5 * a + b) = 0 ∨ S 6 (5 * a + b) = 1) (k : Q (.inl (some (.int (S 6 (5 * a + b))))) h) : WP d mX10_isCut 0 [some (.ref 4), some (.int (Int32.ofNat a)), some (.int (Int32.ofNat b))] [] h Q := by
  have hs := rcS hr
  refine bX10_isCut_0 ?_
  have e : Int32.ofNat a * (5 : Int32) + Int32.ofNat b = Int32.ofNat (5 * a + b) := by
    rw [Int32.mul_comm, o_muln, o_add]
  rw [st_R_1004_4 hs, e, o_c _ (by omega), (rcN hr).2.2.2.1 _ (by omega)]
  refine ⟨st_K_4 hs, st_K_6 hs, inA_o (st_L_6 hs) (by omega) (by decide), ?_, k⟩
  rcases hz with q | q <;> rw [q] <;> rfl
theorem w_switchCut (hr : RC S F e X h) {a b : Nat} (ha : a < 5) (hb : b < 5) (hz : S 6 (5 * a + b) = 0 ∨ S 6 (5 * a + b) = 1) {u : Option Value} (k : ∀ h', RC (cutS S a b) F e X h' → Q (.inl (some (.int (b2i (decide (S 6 (5 * a + b) = 0)))))) h') : WP (d + 1) mX10_switchCut 0 [some (.ref 4), some (.int (Int32.ofNat a)), some (.int (Int32.ofNat b)), u] [] h Q := by
  have hs := rcS hr
  refine bX10_switchCut_0 ⟨by decide, st_K_4 hs, w_isCut hr ha hb hz ?_⟩
  rw [KK_ret]
  refine bX10_switchCut_6 ?_
  have e : Int32.ofNat a * (5 : Int32) + Int32.ofNat b = Int32.ofNat (5 * a + b) := by
    rw [Int32.mul_comm, o_muln, o_add]
  have e' : Int32.ofNat b * (5 : Int32) + Int32.ofNat a = Int32.ofNat (5 * b + a) := by
    rw [Int32.mul_comm, o_muln, o_add]
  rw [st_R_1004_4 hs, e, e', o_c _ (by omega), o_c _ (by omega)]
  unfold cutS at k
  refine ⟨fun c => ⟨st_K_4 hs, st_K_6 hs, inA_o (st_L_6 hs) (by omega) (by decide), inA_o (st_L_6 hs) (by omega) (by decide), ?_⟩, fun c => ⟨st_K_4 hs, st_K_6 hs, inA_o (st_L_6 hs) (by omega) (by decide), inA_o (st_L_6 hs) (by omega) (by decide), ?_⟩⟩
  · rw [decide_eq_false c] at k
    exact k _ (rc_cut (rc_cut hr))
  · rw [decide_eq_true (Classical.not_not.mp c)] at k
    exact k _ (rc_cut (rc_cut hr))
theorem c_cut (hr : RC S F e X h) (hn : S 0 0 = Int32.ofNat n) (hn5 : n ≤ 5) {x y : Int32} (hz : ∀ k, k < 25 → S 6 k = 0 ∨ S 6 k = 1) (k3 : ¬ ((0 ≤ x.toInt ∧ x.toInt < n) ∧ (0 ≤ y.toInt ∧ y.toInt < n)) → ∀ h', RC S F e (thX X) h' → Q (.inr 3) h') (k1 : (0 ≤ x.toInt ∧ x.toInt < n) ∧ (0 ≤ y.toInt ∧ y.toInt < n) → x = y → ∀ h', RC S F e (thX X) h' → Q (.inr 1) h') (k : ∀ a b, x = Int32.ofNat a → a < n → y = Int32.ofNat b → b < n → a ≠ b → ∀ h', RC (cutS (stepS S) a b) F e X h' → Q (.inl (some (.int (b2i (decide (S 6 (5 * a + b) = 0)))))) h') : WP (d + 2) mX11_cut 0 [some (.ref 2), some (.int x), some (.int y)] [] h Q := by
  have hs := rcS hr
  refine bX11_cut_0 ⟨by decide, st_K_2 hs, w_needMachine hr hn hn5 (fun c => KK_exc rfl rfl rfl (k3 (fun q => c q.1) _ (rc_thr hr))) ?_⟩
  intro a ha han
  rw [KK_ret]
  refine bX11_cut_5 ⟨by decide, st_K_2 hs, w_needMachine hr hn hn5 (fun c => KK_exc rfl rfl rfl (k3 (fun q => c q.2) _ (rc_thr hr))) ?_⟩
  intro b hb hbn
  rw [KK_ret]
  refine bX11_cut_11 ?_
  rw [st_R_1104_2 hs]
  refine ⟨fun c => ⟨st_K_2 hs, by decide, st_K_133 hs, w_goOn hr ?_⟩, fun c => ?_⟩
  · intro h1 hr1 er1 ear1
    have hs1 := rcS hr1
    rw [KK_ret]
    refine bX11_cut_34 ?_
    rw [st_R_1101_2 hs1]
    refine ⟨st_K_2 hs1, by decide, st_K_4 hs1, ?_⟩
    have kk := k a b ha han hb hbn (fun q => c (by rw [ha, hb, q]))
    subst ha hb
    refine w_switchCut hr1 (by omega) (by omega) (hz _ (by omega)) ?_
    intro h2 hr2
    rw [KK_ret]
    exact bX11_cut_43 ⟨isZ_b2i, kk h2 hr2⟩
  · refine k1 ⟨?_, ?_⟩ (Classical.not_not.mp c) _ (rc_thr hr)
    · rw [ha, o_i _ (by omega)]; omega
    · rw [hb, o_i _ (by omega)]; omega
theorem c_rate (hr : RC S F e X h) (hn : S 0 0 = Int32.ofNat n) (hn5 : n ≤ 5) {x y : Int32} {u : Option Value} (hnn : nn32 (FP.fdiv (FP.i2f y) (1148846080 : UInt32)) = true) (k3 : ¬ (0 ≤ x.toInt ∧ x.toInt < n) → ∀ h', RC S F e (thX X) h' → Q (.inr 3) h') (k1 : (0 ≤ x.toInt ∧ x.toInt < n) → ¬ (500 ≤ y.toInt ∧ y.toInt ≤ 1500) → ∀ h', RC S F e (thX X) h' → Q (.inr 1) h') (k : ∀ m, x = Int32.ofNat m → m < n → (500 ≤ y.toInt ∧ y.toInt ≤ 1500) → ∀ h', RC (stepS S) (u2 F 8 m (FP.fdiv (FP.i2f y) (1148846080 : UInt32))) e X h' → Q (.inl (some (.float (F 7 m)))) h') : WP (d + 2) mX11_rate 0 [some (.ref 2), some (.int x), some (.int y), u] [] h Q := by
  have hs := rcS hr
  refine bX11_rate_0 ⟨by decide, st_K_2 hs, w_needMachine hr hn hn5 (fun c => KK_exc rfl rfl rfl (k3 c _ (rc_thr hr))) ?_⟩
  intro m hm hmn
  rw [KK_ret]
  refine bX11_rate_5 (w_needRange (fun c => KK_exc rfl rfl rfl (k1 ?_ c _ (rc_thr hr))) ?_)
  · rw [hm, o_i _ (by omega)]; omega
  · intro c1 c2
    rw [KK_ret]
    refine bX11_rate_16 ?_
    rw [st_R_1104_2 hs]
    refine ⟨st_K_2 hs, by decide, st_K_133 hs, w_goOn hr ?_⟩
    intro h1 hr1 er1 ear1
    have hs1 := rcS hr1
    rw [KK_ret]
    refine bX11_rate_23 ⟨hnn, st_K_150 hs1 (by omega), ?_⟩
    have e7 := rd_clock hr1 (i := m) (by omega)
    have e8 : hF (sF h1 806 (150 + 12 * m) (FP.fdiv (FP.i2f y) (1148846080 : UInt32))) 805 (150 + 12 * m) = F 7 m := e7
    rw [e8]
    exact k m hm hmn ⟨c1, c2⟩ _ (rc_rate hr1)
theorem c_spans (hr : RC S F e X h) {x y : Int32} (n1 : nn32 (FP.fdiv (FP.i2f x) (1092616192 : UInt32)) = true) (n2 : nn32 (FP.fdiv (FP.i2f y) (1120403456 : UInt32)) = true) (k1 : ¬ ((1 ≤ x.toInt ∧ x.toInt ≤ 1000) ∧ (0 ≤ y.toInt ∧ y.toInt ≤ 90)) → ∀ h', RC S F e (thX X) h' → Q (.inr 1) h') (k : (1 ≤ x.toInt ∧ x.toInt ≤ 1000) ∧ (0 ≤ y.toInt ∧ y.toInt ≤ 90) → ∀ h', RC (stepS S) (u2 (u2 F 2 0 (FP.fdiv (FP.i2f x) (1092616192 : UInt32))) 3 0 (FP.fdiv (FP.i2f y) (1120403456 : UInt32))) e X h' → Q (.inl none) h') : WP (d + 2) mX11_spans 0 [some (.ref 2), some (.int x), some (.int y)] [] h Q := by
  have hs := rcS hr
  refine bX11_spans_0 (w_needRange (fun c => KK_exc rfl rfl rfl (k1 (fun q => c q.1) _ (rc_thr hr))) ?_)
  intro c1 c2
  rw [KK_ret]
  refine bX11_spans_8 (w_needRange (fun c => KK_exc rfl rfl rfl (k1 (fun q => c q.2) _ (rc_thr hr))) ?_)
  intro c3 c4
  rw [KK_ret]
  refine bX11_spans_15 ?_
  rw [st_R_1104_2 hs]
  refine ⟨st_K_2 hs, by decide, st_K_133 hs, w_goOn hr ?_⟩
  intro h1 hr1 er1 ear1
  have hs1 := rcS hr1
  rw [KK_ret]
  refine bX11_spans_22 ?_
  rw [st_R_1102_2 hs1]
  exact ⟨st_K_2 hs1, n1, st_K_131 hs1, n2, k ⟨⟨c1, c2⟩, c3, c4⟩ _ (rc_bound (rc_span hr1))⟩
theorem w_pass_33 (hn : S 0 0 = Int32.ofNat n) (hn5 : n ≤ 5) {x : Int32} {v : UInt32} (n1 : ∀ m, m < n → nn32 (FP.fmul v (F 8 m)) = true ∧ nn32 (FP.fadd (F 7 m) (FP.fmul v (F 8 m))) = true) (k : ∀ h', RC S (passF F v n) e X h' → Q (.inl (some (.float (FP.fadd (F 1 0) v)))) h') :
    ∀ (m j : Nat) (h : HP), j + m = n → RC S (passF F v j) e X h → WP (d + 1) mX11_pass 33 [some (.ref 2), some (.int x), some (.float v), some (.int (Int32.ofNat j))] [] h Q := by
  have f8 : ∀ j q, passF F v j 8 q = F 8 q := by
    intro j q
    induction j with
    | zero => exact u2_ne (by omega)
    | succ j ih => exact (u2_ne (by omega)).trans ih
  have f7 : ∀ j q, j ≤ q → passF F v j 7 q = F 7 q := by
    intro j q
    induction j with
    | zero => intro _; exact u2_ne (by omega)
    | succ j ih => intro hq; exact (u2_ne (by omega)).trans (ih (by omega))
  have f1 : ∀ j, passF F v j 1 0 = FP.fadd (F 1 0) v := by
    intro j
    induction j with
    | zero => exact u2_eq
    | succ j ih => exact (u2_ne (by omega)).trans ih
  intro m
  induction m with
  | zero =>
    intro j h hj hr
    obtain rfl : j = n := by omega
    have hs := rcS hr
    refine bX11_pass_33 ⟨st_K_2 hs, ?_⟩
    rw [st_R_1101_2 hs, rd_n hr, hn, o_le _ _ (by omega) (by omega), (rcG hr).1, f1]
    exact ⟨st_K_4 hs, fun _ => k h hr, fun c => absurd (Nat.le_refl _) c⟩
  | succ m ih =>
    intro j h hj hr
    have hs := rcS hr
    refine bX11_pass_33 ⟨st_K_2 hs, ?_⟩
    rw [st_R_1101_2 hs, rd_n hr, hn, o_le _ _ (by omega) (by omega), st_R_1100_2 hs, o_c _ (by omega), st_AR_3_e hs (by omega), st_K_3 hs]
    refine ⟨st_K_4 hs, fun c => by omega, fun _ => ⟨⟨by decide, by decide⟩, inA_o (st_L_3 hs) (by omega) (by decide), by omega, st_K_150 hs (by omega), w_letPass hr (by omega) (by rw [f8]; exact (n1 j (by omega)).1) (by rw [f8, f7 _ _ (Nat.le_refl _)]; exact (n1 j (by omega)).2) ?_⟩⟩
    intro h2 hr2
    rw [KK_ret]
    refine bX11_pass_54 ?_
    rw [o_addn]
    rw [f8, f7 _ _ (Nat.le_refl _)] at hr2
    exact ih (j + 1) h2 (by omega) hr2
theorem c_pass (hr : RC S F e X h) (hn : S 0 0 = Int32.ofNat n) (hn5 : n ≤ 5) {x : Int32} {u1 u2' : Option Value} (n0 : nn32 (FP.fdiv (FP.i2f x) (1092616192 : UInt32)) = true) (n2 : nn32 (FP.fadd (F 1 0) (FP.fdiv (FP.i2f x) (1092616192 : UInt32))) = true) (n1 : ∀ m, m < n → nn32 (FP.fmul (FP.fdiv (FP.i2f x) (1092616192 : UInt32)) (F 8 m)) = true ∧ nn32 (FP.fadd (F 7 m) (FP.fmul (FP.fdiv (FP.i2f x) (1092616192 : UInt32)) (F 8 m))) = true) (k1 : ¬ (1 ≤ x.toInt ∧ x.toInt ≤ 1000) → ∀ h', RC S F e (thX X) h' → Q (.inr 1) h') (k : (1 ≤ x.toInt ∧ x.toInt ≤ 1000) → ∀ h', RC (stepS S) (passF F (FP.fdiv (FP.i2f x) (1092616192 : UInt32)) n) e X h' → Q (.inl (some (.float (FP.fadd (F 1 0) (FP.fdiv (FP.i2f x) (1092616192 : UInt32)))))) h') : WP (d + 2) mX11_pass 0 [some (.ref 2), some (.int x), u1, u2'] [] h Q := by
  have hs := rcS hr
  refine bX11_pass_0 (w_needRange (fun c => KK_exc rfl rfl rfl (k1 c _ (rc_thr hr))) ?_)
  intro c1 c2
  rw [KK_ret]
  refine bX11_pass_8 ?_
  rw [st_R_1104_2 hs]
  refine ⟨st_K_2 hs, by decide, st_K_133 hs, w_goOn hr ?_⟩
  intro h1 hr1 er1 ear1
  have hs1 := rcS hr1
  rw [KK_ret]
  refine bX11_pass_15 ?_
  rw [(rcG hr1).1]
  exact ⟨n0, st_K_2 hs1, n2, w_pass_33 (S := stepS S) hn hn5 n1 (k ⟨c1, c2⟩) n 0 _ (Nat.zero_add _) (rc_time hr1)⟩
theorem c_lose {q : Nat} (hr : RC S F (e1, 0, e3) X h) (hq : S 39 0 = Int32.ofNat q) (hq60 : q ≤ 60) {x : Int32} (k3 : ¬ (0 ≤ x.toInt ∧ x.toInt < q) → ∀ h', RC S F (e1, 0, e3) (thX X) h' → Q (.inr 3) h') (k : ∀ p, x = Int32.ofNat p → p < q → ∀ h' e3', RC (leaveS (stepS S) p) (leaveF (stepS S) F p) (e1, 0, e3') X h' → Q (.inl (some (.int (Int32.ofNat (q - 1))))) h') : WP (d + 2) mX11_lose 0 [some (.ref 2), some (.int x)] [] h Q := by
  have hs := rcS hr
  refine bX11_lose_0 ⟨by decide, st_K_2 hs, w_needMessage hr hq hq60 (fun c => KK_exc rfl rfl rfl (k3 c _ (rc_thr hr))) ?_⟩
  intro p hp hpq
  rw [KK_ret]
  refine bX11_lose_5 ?_
  rw [st_R_1104_2 hs]
  refine ⟨st_K_2 hs, by decide, st_K_133 hs, w_goOn hr ?_⟩
  intro h1 hr1 er1 ear1
  have hs1 := rcS hr1
  rw [KK_ret]
  refine bX11_lose_13 ?_
  have kp := k p hp hpq
  subst hp
  rw [st_R_1101_2 hs1]
  refine ⟨st_K_2 hs1, by decide, st_K_4 hs1, w_takeOut hr1 (n := q) hq hq60 hpq ?_⟩
  intro h2 hr2 er2
  have hs2 := rcS hr2
  rw [KK_ret]
  refine bX11_lose_21 ?_
  have hc : hI h2 1001 4 = Int32.ofNat (q - 1) := by
    rw [rd_cnt hr2]
    show (S 39 0 - 1) + 0 = _
    rw [hq, o_sub1 _ (by omega), Int32.add_zero]
  rw [st_R_1101_2 hs2, hc]
  exact ⟨st_K_2 hs2, st_K_4 hs2, kp h2 _ hr2⟩
end QHA
