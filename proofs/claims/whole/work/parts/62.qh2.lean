/-! ===== calls of the class: twice, stand, beat, read, propose ===== -/
theorem beatN_congr {S S' : SI} (h1 : S' 12 = S 12) (h2 : S' 19 = S 19) (m j : Nat) : beatN S' m j = beatN S m j := by
  induction j with
  | zero => rfl
  | succ j ih =>
    unfold beatN manyN
    rw [ih, h1, h2]
theorem outd_congr {S S' : SI} (h1 : S' 15 = S 15) (h2 : S' 16 = S 16) (i : Nat) (c s : Int32) (n : Nat) : outd S' i c s n = outd S i c s n := by
  induction n with
  | zero => rfl
  | succ n ih =>
    unfold outd
    rw [ih, h1, h2]
theorem valU_congr {S S' : SI} (h1 : S' 15 = S 15) (h2 : S' 16 = S 16) (h3 : S' 17 = S 17) (i : Nat) (n : Nat) : valU S' i n = valU S i n := by
  induction n with
  | zero => rfl
  | succ n ih =>
    unfold valU
    rw [ih, h1, h2, h3, outd_congr h1 h2]
section QHB
variable {S : SI} {F : SF} {e : EX} {X : MX} {h : HP} {d : Nat} {Q : Out → HP → Prop} {e1 : Int32} {e3 : RW × UInt32} {n a b : Nat}
theorem rc_unsent {r : Int32 × RW × UInt32} (hr : RC (sentS S) F (e1, r) X h) : RC S F (e1 + 1, r) X h := by
  obtain ⟨hs, hrow, hm, hl, hle, hc, hn, hh, hg⟩ := hr
  refine ⟨hs, hrow, hm, hl, hle, hc, ⟨hn.1, hn.2.1, ?_, hn.2.2.2⟩, hh, hg⟩
  have q := hn.2.2.1
  show hI h 1002 4 = S 40 0 + (e1 + 1)
  rw [q]
  show S 40 0 + 1 + e1 = _
  rw [Int32.add_assoc, Int32.add_comm 1 e1]
theorem push_sent {w : RW} : pushS (sentS S) w = sentS (pushS S w) := by
  funext s k
  have e39 : sentS S 39 0 = S 39 0 := rfl
  unfold pushS
  rw [e39]
  by_cases c1 : s = 37 ∧ (nt (S 39 0) < 60 ∧ 24 * nt (S 39 0) ≤ k ∧ k < 24 * nt (S 39 0) + 24)
  · rw [if_pos c1]
    unfold sentS
    rw [u2_ne (by omega)]
    show _ = if s = 37 ∧ _ then _ else _
    rw [if_pos c1]
  · rw [if_neg c1]
    by_cases c2 : s = 39 ∧ (k = 0 ∧ nt (S 39 0) < 60)
    · rw [if_pos c2]
      unfold sentS
      rw [u2_ne (by omega)]
      show _ = if s = 37 ∧ _ then _ else if s = 39 ∧ _ then _ else _
      rw [if_neg c1, if_pos c2]
    · rw [if_neg c2]
      unfold sentS
      by_cases c3 : s = 40 ∧ k = 0
      · obtain ⟨rfl, rfl⟩ := c3
        rw [u2_eq, u2_eq]
        show _ = (if 40 = 37 ∧ _ then _ else if 40 = 39 ∧ _ then _ else S 40 0) + 1
        rw [if_neg (by omega), if_neg (by omega)]
      · rw [u2_ne (by omega), u2_ne (by omega)]
        show _ = if s = 37 ∧ _ then _ else if s = 39 ∧ _ then _ else _
        rw [if_neg c1, if_neg c2]
theorem w_copy_50 {w : RW} {c : UInt32} (hb : mset b) (hab : b ≠ a) {h0 : HP} (k : ∀ h', RC S F e X h' → FREE S h' a → MSGw w c h' a → hR h' = hR h0 → (∀ q, hAR h' 5 q = hAR h0 5 q) → Q (.inl none) h') :
    ∀ (m j : Nat) (h : HP), j + m = 3 → RC S F e X h → FREE S h a → MSGw w c h b → hR h = hR h0 → (∀ q, hAR h 5 q = hAR h0 5 q) → hI h 900 a = hI h 900 b → hI h 901 a = hI h 901 b → hI h 902 a = hI h 902 b → hI h 903 a = hI h 903 b → hI h 904 a = hI h 904 b → hI h 905 a = hI h 905 b → hI h 906 a = hI h 906 b → hF h 907 a = hF h 907 b → hI h 908 a = hI h 908 b → hI h 910 a = hI h 910 b → (∀ q, q < j → hAR h (a + 1) q = hAR h (b + 1) q) → WP d mX9_copyRest 50 [some (.ref a), some (.ref b), some (.int (Int32.ofNat j))] [] h Q := by
  have hb2 := mset_hi hb
  intro m
  induction m with
  | zero =>
    intro j h hj hr hf mg er e5 f0 f1 f2 f3 f4 f5 f6 f7 f8 f10 hq
    obtain rfl : j = 3 := by omega
    have K := ((rcR hr).2.2.2.2 b (Or.inl hb)).1
    refine bX9_copyRest_50 ⟨fun _ => ⟨K, fr_K hr hf, ?_⟩, fun c => absurd (by decide) c⟩
    have g12 : hI (sI h 911 a (hI h 911 b)) 912 b = hI h 912 b := ne_sI (by omega)
    have g13 : hI (sI (sI h 911 a (hI h 911 b)) 912 a (hI h 912 b)) 913 b = hI h 913 b := by rw [ne_sI (by omega), ne_sI (by omega)]
    rw [g12, g13]
    refine k _ (rc_m913 (rc_m912 (rc_m911 hr hf) hf.sI) hf.sI.sI) hf.sI.sI.sI ?_ (by rw [hR_sI, hR_sI, hR_sI]; exact er) (fun q => by rw [hAR_sI, hAR_sI, hAR_sI]; exact e5 q)
    have g : ∀ f, f ≠ 911 → f ≠ 912 → f ≠ 913 → hI (sI (sI (sI h 911 a (hI h 911 b)) 912 a (hI h 912 b)) 913 a (hI h 913 b)) f a = hI h f a := fun f h1 h2 h3 => by rw [ne_sI (by omega), ne_sI (by omega), ne_sI (by omega)]
    obtain ⟨m0, m1, m2, m3, m4, m5, m6, m7, m8, m9, m10, m11, m12, m13⟩ := mg
    refine ⟨?_, ?_, ?_, ?_, ?_, fun q => ?_, fun q => ?_, fun q => ?_, fun q => ?_, fun q => ?_, fun q => ⟨?_, ?_⟩, fun q => ?_, fun q => ?_, fun k3 hk3 hq3 => ?_⟩
    · rw [g 900 (by decide) (by decide) (by decide), f0]; exact m0
    · rw [g 901 (by decide) (by decide) (by decide), f1]; exact m1
    · rw [g 902 (by decide) (by decide) (by decide), f2]; exact m2
    · rw [g 903 (by decide) (by decide) (by decide), f3]; exact m3
    · rw [g 910 (by decide) (by decide) (by decide), f10]; exact m4
    · rw [g 904 (by decide) (by decide) (by decide), f4]; exact m5 q
    · rw [g 905 (by decide) (by decide) (by decide), f5]; exact m6 q
    · rw [g 906 (by decide) (by decide) (by decide), f6]; exact m7 q
    · rw [g 908 (by decide) (by decide) (by decide), f8]; exact m8 q
    · rw [ne_sI (by omega), ne_sI (by omega), hI_sI, if_pos ⟨rfl, rfl⟩]; exact m9 q
    · rw [ne_sI (by omega), hI_sI, if_pos ⟨rfl, rfl⟩]; exact (m10 q).1
    · rw [hI_sI, if_pos ⟨rfl, rfl⟩]; exact (m10 q).2
    · rw [hI_sI, if_pos ⟨rfl, rfl⟩]; exact m11 q
    · rw [hF_sI, hF_sI, hF_sI, f7]; exact m12 q
    · have en := m13 k3 hk3 hq3
      rw [← hq k3 hk3] at en
      rw [hAR_sI, hAR_sI, hAR_sI]
      exact EN_of (fun f b h1 h2 _ => by rw [ne_sI (by omega), ne_sI (by omega), ne_sI (by omega)]) (fun b _ => by rw [hK_sI, hK_sI, hK_sI]) (by rw [hN_sI, hN_sI, hN_sI]; exact Nat.le_refl _) en
  | succ m ih =>
    intro j h hj hr hf mg er e5 f0 f1 f2 f3 f4 f5 f6 f7 f8 f10 hq
    have rb := (rcR hr).2.2.2.2 b (Or.inl hb)
    have hlo := hf.lo
    have hent := rb.2.2.2.2.2 j (by omega)
    refine bX9_copyRest_50 ?_
    rw [o_nle _ _ (by decide) (by omega), o_c _ (by omega), rb.2.1, fr_R hr hf, rb.2.2.1, fr_K1 hr hf, o_addn]
    refine ⟨fun c => by omega, fun _ => ⟨fr_K hr hf, rb.1, ⟨by decide, by decide⟩, inA_o rb.2.2.2.1 (by omega) (by decide), ⟨by decide, by decide⟩, inA_o (fr_L1 hr hf) (by omega) (by decide), ?_, ?_⟩⟩
    · rcases hent with q | q
      · exact Or.inl q
      · exact Or.inr ⟨q.1, q.2.2⟩
    · refine ih (j + 1) _ (by omega) (rc_mAR hr hf hent) hf.sAR (MSGw_AR (by omega) mg) er (fun q => ?_) f0 f1 f2 f3 f4 f5 f6 f7 f8 f10 (fun q hq2 => ?_)
      · have h5 : a + 1 ≠ 5 := by omega
        rw [hAR_sAR, if_neg (fun w => h5 w.1.symm)]; exact e5 q
      · rw [hAR_sAR, hAR_sAR, if_neg (show ¬ (b + 1 = a + 1 ∧ q = j) from fun w => hab (by omega))]
        by_cases c : q = j
        · subst c; rw [if_pos ⟨rfl, rfl⟩]
        · rw [if_neg (fun w => c w.2)]; exact hq q (by omega)
theorem w_copyRest {w : RW} {c : UInt32} {u : Option Value} (hr : RC S F e X h) (hf : FREE S h a) (hb : mset b) (hab : b ≠ a) (mg : MSGw w c h b) (f0 : hI h 900 a = hI h 900 b) (f1 : hI h 901 a = hI h 901 b) (f2 : hI h 902 a = hI h 902 b) (f3 : hI h 903 a = hI h 903 b) (k : ∀ h', RC S F e X h' → FREE S h' a → MSGw w c h' a → hR h' = hR h → (∀ q, hAR h' 5 q = hAR h 5 q) → Q (.inl none) h') : WP d mX9_copyRest 0 [some (.ref a), some (.ref b), u] [] h Q := by
  have rb := (rcR hr).2.2.2.2 b (Or.inl hb)
  refine bX9_copyRest_0 ⟨rb.1, fr_K hr hf, ?_⟩
  have g5 : hI (sI h 904 a (hI h 904 b)) 905 b = hI h 905 b := ne_sI (by omega)
  have g6 : hI (sI (sI h 904 a (hI h 904 b)) 905 a (hI h 905 b)) 906 b = hI h 906 b := by rw [ne_sI (by omega), ne_sI (by omega)]
  have g8 : hI (sI (sI (sI h 904 a (hI h 904 b)) 905 a (hI h 905 b)) 906 a (hI h 906 b)) 908 b = hI h 908 b := by rw [ne_sI (by omega), ne_sI (by omega), ne_sI (by omega)]
  rw [g5, g6, g8]
  have r1 := rc_m904 (v := hI h 904 b) hr hf
  have r2 := rc_m905 (v := hI h 905 b) r1 hf.sI
  have r3 := rc_m906 (v := hI h 906 b) r2 hf.sI.sI
  have r4 := rc_m907 (v := hF h 907 b) r3 hf.sI.sI.sI
  have r5 := rc_m908 (v := hI h 908 b) r4 hf.sI.sI.sI.sF rb.2.2.2.2.1
  have hf5 := hf.sI (f := 904) (b := a) (v := hI h 904 b) |>.sI (f := 905) (b := a) (v := hI h 905 b) |>.sI (f := 906) (b := a) (v := hI h 906 b) |>.sF (f := 907) (b := a) (v := hF h 907 b) |>.sI (f := 908) (b := a) (v := hI h 908 b)
  have g10 : hI (sI (sF (sI (sI (sI h 904 a (hI h 904 b)) 905 a (hI h 905 b)) 906 a (hI h 906 b)) 907 a (hF h 907 b)) 908 a (hI h 908 b)) 910 b = hI h 910 b := by rw [ne_sI (by omega), hI_sF, ne_sI (by omega), ne_sI (by omega), ne_sI (by omega)]
  rw [g10]
  have Ka := fr_K hr hf
  refine ⟨rb.2.2.2.2.1, bX9_copyRest_45 ⟨Ka, ?_⟩⟩
  have r6 := rc_m910 (v := hI h 910 b) r5 hf5
  have gI : ∀ f x, ¬ (f = 904 ∧ x = a) → ¬ (f = 905 ∧ x = a) → ¬ (f = 906 ∧ x = a) → ¬ (f = 908 ∧ x = a) → ¬ (f = 910 ∧ x = a) → hI (sI (sI (sF (sI (sI (sI h 904 a (hI h 904 b)) 905 a (hI h 905 b)) 906 a (hI h 906 b)) 907 a (hF h 907 b)) 908 a (hI h 908 b)) 910 a (hI h 910 b)) f x = hI h f x := fun f x h1 h2 h3 h4 h5 => by
    rw [ne_sI h5, ne_sI h4, hI_sF, ne_sI h3, ne_sI h2, ne_sI h1]
  have gF : ∀ x, hF (sI (sI (sF (sI (sI (sI h 904 a (hI h 904 b)) 905 a (hI h 905 b)) 906 a (hI h 906 b)) 907 a (hF h 907 b)) 908 a (hI h 908 b)) 910 a (hI h 910 b)) 907 x = if x = a then hF h 907 b else hF h 907 x := fun x => by
    rw [hF_sI, hF_sI, hF_sF, hF_sI, hF_sI, hF_sI]
    by_cases c : x = a
    · rw [if_pos ⟨rfl, c⟩, if_pos c]
    · rw [if_neg (fun w => c w.2), if_neg c]
  have gA : hAR (sI (sI (sF (sI (sI (sI h 904 a (hI h 904 b)) 905 a (hI h 905 b)) 906 a (hI h 906 b)) 907 a (hF h 907 b)) 908 a (hI h 908 b)) 910 a (hI h 910 b)) = hAR h := by
    rw [hAR_sI, hAR_sI, hAR_sF, hAR_sI, hAR_sI, hAR_sI]
  have gR : hR (sI (sI (sF (sI (sI (sI h 904 a (hI h 904 b)) 905 a (hI h 905 b)) 906 a (hI h 906 b)) 907 a (hF h 907 b)) 908 a (hI h 908 b)) 910 a (hI h 910 b)) = hR h := by
    rw [hR_sI, hR_sI, hR_sF, hR_sI, hR_sI, hR_sI]
  have gK : hK (sI (sI (sF (sI (sI (sI h 904 a (hI h 904 b)) 905 a (hI h 905 b)) 906 a (hI h 906 b)) 907 a (hF h 907 b)) 908 a (hI h 908 b)) 910 a (hI h 910 b)) = hK h := by
    rw [hK_sI, hK_sI, hK_sF, hK_sI, hK_sI, hK_sI]
  have gN : hN (sI (sI (sF (sI (sI (sI h 904 a (hI h 904 b)) 905 a (hI h 905 b)) 906 a (hI h 906 b)) 907 a (hF h 907 b)) 908 a (hI h 908 b)) 910 a (hI h 910 b)) = hN h := by
    rw [hN_sI, hN_sI, hN_sF, hN_sI, hN_sI, hN_sI]
  have v4 : hI (sI (sI (sF (sI (sI (sI h 904 a (hI h 904 b)) 905 a (hI h 905 b)) 906 a (hI h 906 b)) 907 a (hF h 907 b)) 908 a (hI h 908 b)) 910 a (hI h 910 b)) 904 a = hI h 904 b := by
    rw [ne_sI (by omega), ne_sI (by omega), hI_sF, ne_sI (by omega), ne_sI (by omega), hI_sI, if_pos ⟨rfl, rfl⟩]
  have v5 : hI (sI (sI (sF (sI (sI (sI h 904 a (hI h 904 b)) 905 a (hI h 905 b)) 906 a (hI h 906 b)) 907 a (hF h 907 b)) 908 a (hI h 908 b)) 910 a (hI h 910 b)) 905 a = hI h 905 b := by
    rw [ne_sI (by omega), ne_sI (by omega), hI_sF, ne_sI (by omega), hI_sI, if_pos ⟨rfl, rfl⟩]
  have v6 : hI (sI (sI (sF (sI (sI (sI h 904 a (hI h 904 b)) 905 a (hI h 905 b)) 906 a (hI h 906 b)) 907 a (hF h 907 b)) 908 a (hI h 908 b)) 910 a (hI h 910 b)) 906 a = hI h 906 b := by
    rw [ne_sI (by omega), ne_sI (by omega), hI_sF, hI_sI, if_pos ⟨rfl, rfl⟩]
  have v8 : hI (sI (sI (sF (sI (sI (sI h 904 a (hI h 904 b)) 905 a (hI h 905 b)) 906 a (hI h 906 b)) 907 a (hF h 907 b)) 908 a (hI h 908 b)) 910 a (hI h 910 b)) 908 a = hI h 908 b := by
    rw [ne_sI (by omega), hI_sI, if_pos ⟨rfl, rfl⟩]
  have v10 : hI (sI (sI (sF (sI (sI (sI h 904 a (hI h 904 b)) 905 a (hI h 905 b)) 906 a (hI h 906 b)) 907 a (hF h 907 b)) 908 a (hI h 908 b)) 910 a (hI h 910 b)) 910 a = hI h 910 b := by
    rw [hI_sI, if_pos ⟨rfl, rfl⟩]
  have hf6 : FREE S (sI (sI (sF (sI (sI (sI h 904 a (hI h 904 b)) 905 a (hI h 905 b)) 906 a (hI h 906 b)) 907 a (hF h 907 b)) 908 a (hI h 908 b)) 910 a (hI h 910 b)) a := hf5.sI
  generalize sI (sI (sF (sI (sI (sI h 904 a (hI h 904 b)) 905 a (hI h 905 b)) 906 a (hI h 906 b)) 907 a (hF h 907 b)) 908 a (hI h 908 b)) 910 a (hI h 910 b) = H at r6 gI gF gA gR gK gN v4 v5 v6 v8 v10 hf6 ⊢
  have mH : MSGw w c H b := MSGw_of (fun f _ _ => gI f b (by omega) (by omega) (by omega) (by omega) (by omega)) (by rw [gF, if_neg hab]) (fun k => by rw [gA]) (fun f x h1 h2 _ => gI f x (by omega) (by omega) (by omega) (by omega) (by omega)) (fun b _ => by rw [gK]) (by rw [gN]; exact Nat.le_refl _) mg
  have gb : ∀ f, hI H f b = hI h f b := fun f => gI f b (by omega) (by omega) (by omega) (by omega) (by omega)
  refine w_copy_50 hb hab (h0 := h) (fun h' q1 q2 q3 q4 q5 => k h' q1 q2 q3 q4 q5) 3 0 H rfl r6 hf6 mH gR (fun q => by rw [gA]) ?_ ?_ ?_ ?_ ?_ ?_ ?_ ?_ ?_ ?_ (fun q hq => by omega)
  · rw [gb, gI _ _ (by omega) (by omega) (by omega) (by omega) (by omega)]; exact f0
  · rw [gb, gI _ _ (by omega) (by omega) (by omega) (by omega) (by omega)]; exact f1
  · rw [gb, gI _ _ (by omega) (by omega) (by omega) (by omega) (by omega)]; exact f2
  · rw [gb, gI _ _ (by omega) (by omega) (by omega) (by omega) (by omega)]; exact f3
  · rw [gb, v4]
  · rw [gb, v5]
  · rw [gb, v6]
  · rw [gF, gF, if_pos rfl, if_neg hab]
  · rw [gb, v8]
  · rw [gb, v10]
theorem c_twice {q : Nat} (hr : RC S F (e1, 0, e3) X h) (hq : S 39 0 = Int32.ofNat q) (hq60 : q ≤ 60) {x : Int32} {u : Option Value} (k3 : ¬ (0 ≤ x.toInt ∧ x.toInt < q) → ∀ h', RC S F (e1, 0, e3) (thX X) h' → Q (.inr 3) h') (k : ∀ p, x = Int32.ofNat p → p < q → ∀ h' e1', RC (twiceS (stepS S) p) (pushF (stepS S) F (F 38 p)) (e1', 0, e3) X h' → Q (.inl (some (.int (Int32.ofNat (min 60 (q + 1)))))) h') : WP (d + 2) mX11_twice 0 [some (.ref 2), some (.int x), u] [] h Q := by
  have hs := rcS hr
  refine bX11_twice_0 ⟨by decide, st_K_2 hs, w_needMessage hr hq hq60 (fun c => KK_exc rfl rfl rfl (k3 c _ (rc_thr hr))) ?_⟩
  intro p hp hpq
  rw [KK_ret]
  have hb := (rcR hr).1 p (by omega)
  refine bX11_twice_5 ?_
  rw [st_R_1104_2 hs]
  refine ⟨st_K_2 hs, by decide, st_K_133 hs, w_goOn hr ?_⟩
  intro h1 hr1 er1 ear1
  have hs1 := rcS hr1
  rw [KK_ret]
  have mg := (rcN hr1).2.2.2.2.1 p (by omega) (by show (p : Int) < (S 39 0).toInt; rw [hq, o_i _ (by omega)]; omega)
  have eb : hAR h1 5 p = hAR h 5 p := by rw [ear1]
  rw [eb] at mg
  have rb := (rcR hr1).2.2.2.2 (hAR h 5 p) (Or.inl hb)
  refine bX11_twice_13 ?_
  rw [st_R_1101_2 hs1, mg.1, mg.2.1, mg.2.2.1, mg.2.2.2.1]
  refine ⟨st_K_2 hs1, rb.1, by decide, st_K_4 hs1, w_send hr1 (by show 0 ≤ (S 39 0).toInt; rw [hq, o_i _ (by omega)]; omega) (by show (S 39 0).toInt ≤ 60; rw [hq, o_i _ (by omega)]; omega) ?_⟩
  intro h2 a hr2 hf2 ha ear er hm
  rw [KK_ret]
  have hlo := hf2.lo
  refine bX11_twice_36 ⟨by omega, fr_K hr2 hf2, ?_⟩
  have eb2 : hAR h2 5 p = hAR h 5 p := by rw [ear, ear1]
  have mg2 := (rcN hr2).2.2.2.2.1 p (by omega) (by show (p : Int) < (S 39 0).toInt; rw [hq, o_i _ (by omega)]; omega)
  have hne : hAR h 5 p ≠ a := by
    have := hf2.2.1 p (by omega) (by show (p : Int) < (S 39 0).toInt; rw [hq, o_i _ (by omega)]; omega)
    rw [eb2] at this
    exact this
  rw [eb2] at mg2
  obtain ⟨m0, m1, m2, m3, _⟩ := hm
  refine w_copyRest hr2 hf2 hb hne mg2 (by rw [m0, mg2.1]) (by rw [m1, mg2.2.1]) (by rw [m2, mg2.2.2.1]) (by rw [m3, mg2.2.2.2.1]) ?_
  intro h3 hr3 hf3 mg3 er3 e53
  rw [KK_ret]
  have r4 := rc_fin (by show 0 ≤ (S 39 0).toInt; rw [hq, o_i _ (by omega)]; omega) (by show (S 39 0).toInt ≤ 60; rw [hq, o_i _ (by omega)]; omega) hr3 (fun q => (e53 _).trans (ha q)) mg3
  have r5 : RC (sentS (twiceS (stepS S) p)) (pushF (stepS S) F (F 38 p)) (e1, 0, e3) X h3 := by
    have q : RC (pushS (sentS (stepS S)) (fun j => stepS S 37 (24 * p + j))) (pushF (stepS S) F (F 38 p)) (e1, 0, e3) X h3 := r4
    rw [push_sent] at q
    exact q
  have r6 := rc_unsent r5
  have hs6 := rcS r6
  refine bX11_twice_40 ?_
  have hc : hI h3 1001 4 = Int32.ofNat (min 60 (q + 1)) := by
    rw [rd_cnt r6]
    show twiceS (stepS S) p 39 0 + 0 = _
    rw [Int32.add_zero]
    unfold twiceS
    rw [push_39]
    show (if nt (S 39 0) < 60 then S 39 0 + 1 else S 39 0) = _
    rw [nt_of hq (by omega), hq]
    split
    · rw [o_addn]; congr 1; omega
    · congr 1; omega
  rw [st_R_1101_2 hs6, hc]
  exact ⟨st_K_2 hs6, st_K_4 hs6, k p hp hpq h3 _ r6⟩
theorem c_stand {q : Nat} (hr : RC S F (e1, 0, e3) X h) (hn : S 0 0 = Int32.ofNat n) (hn5 : n ≤ 5) (hq : S 39 0 = Int32.ofNat q) (hq60 : q ≤ 60) (h30 : ∀ m, m < n → (S 12 m).toInt ≤ 30) (h23 : ∀ m, m < n → ¬ S 11 m = 2 → S 23 m = 0) {x : Int32} {u : Option Value} (k3 : ¬ (0 ≤ x.toInt ∧ x.toInt < n) → ∀ h', RC S F (e1, 0, e3) (thX X) h' → Q (.inr 3) h') (k2 : ∀ m, x = Int32.ofNat m → m < n → ¬ (¬ S 5 m = 0 ∧ ¬ S 11 m = 2 ∧ promB S F m = false) → ∀ h', RC S F (e1, 0, e3) (thX X) h' → Q (.inr 2) h') (k : ∀ m, x = Int32.ofNat m → m < n → (¬ S 5 m = 0 ∧ ¬ S 11 m = 2 ∧ promB S F m = false) → ∀ h' e1', RC (standP (stepS S, F) m n).1 (standP (stepS S, F) m n).2 (e1', 0, e3) X h' → Q (.inl (some (.int (S 9 m + 1)))) h') : WP (d + 4) mX11_stand 0 [some (.ref 2), some (.int x), u] [] h Q := by
  have hs := rcS hr
  refine bX11_stand_0 ⟨by decide, st_K_2 hs, w_needMachine hr hn hn5 (fun c => KK_exc rfl rfl rfl (k3 c _ (rc_thr hr))) ?_⟩
  intro m hm hmn
  have hm5 : m < 5 := by omega
  rw [KK_ret]
  refine bX11_stand_5 ⟨st_K_150 hs hm5, ?_⟩
  rw [rd_up hr hm5, rd_role hr hm5]
  refine ⟨fun c => k2 m hm hmn (fun w => w.1 c) _ (rc_thr hr), fun c => ⟨fun c2 => k2 m hm hmn (fun w => w.2.1 c2) _ (rc_thr hr), fun c2 => ⟨by omega, w_hasPromised hr hm5 ?_⟩⟩⟩
  rw [KK_ret]
  refine bX11_stand_25 ?_
  rw [b2i_z, st_R_1104_2 hs]
  refine ⟨fun c3 => ⟨st_K_2 hs, by decide, st_K_133 hs, w_goOn hr ?_⟩, fun c3 => k2 m hm hmn (fun w => c3 w.2.2) _ (rc_thr hr)⟩
  intro h1 hr1 er1 ear1
  have hs1 := rcS hr1
  rw [KK_ret]
  refine bX11_stand_45 ?_
  rw [st_R_1102_2 hs1]
  refine ⟨st_K_2 hs1, by decide, st_K_131 hs1, w_letStand hr1 hm5 (n := n) hn hn5 (h30 m hmn) hq hq60 (h23 m hmn c2) ?_⟩
  intro h2 e' hr2
  rw [KK_ret]
  refine bX11_stand_53 ⟨st_K_150 (rcS hr2) hm5, ?_⟩
  have e9 : hI h2 808 (150 + 12 * m) = S 9 m + 1 := by
    rw [rd_term hr2 hm5]
    show (toAll (askW (standS (stepS S) m) m) FP.fconst0 m n (standS (stepS S) m, F)).1 9 m = _
    rw [toAll_ne (by decide) (by decide) (by decide)]
    unfold standS
    rw [u2_ne (by omega), u2_ne (by omega), u2_ne (by omega), u2_ne (by omega), u2_eq]
    rfl
  rw [e9]
  exact k m hm hmn ⟨c, c2, c3⟩ h2 e1 hr2
theorem c_beat {q : Nat} (hr : RC S F (e1, 0, e3) X h) (hn : S 0 0 = Int32.ofNat n) (hn5 : n ≤ 5) (hq : S 39 0 = Int32.ofNat q) (hq60 : q ≤ 60) (hl : ∀ m, m < n → ∃ l, S 12 m = Int32.ofNat l ∧ l ≤ 30 ∧ (S 11 m = 2 → ∀ o, o < n → o ≠ m → ∃ p, S 19 (5 * m + o) = Int32.ofNat p ∧ p ≤ l)) {x : Int32} {u : Option Value} (k3 : ¬ (0 ≤ x.toInt ∧ x.toInt < n) → ∀ h', RC S F (e1, 0, e3) (thX X) h' → Q (.inr 3) h') (k2 : ∀ m, x = Int32.ofNat m → m < n → ¬ (¬ S 5 m = 0 ∧ S 11 m = 2) → ∀ h', RC S F (e1, 0, e3) (thX X) h' → Q (.inr 2) h') (k : ∀ m, x = Int32.ofNat m → m < n → (¬ S 5 m = 0 ∧ S 11 m = 2) → ∀ h' e1', RC (beatP (stepS S, F) m n).1 (beatP (stepS S, F) m n).2 (e1', 0, e3) X h' → Q (.inl (some (.int (Int32.ofNat (beatN S m n))))) h') : WP (d + 3) mX11_beat 0 [some (.ref 2), some (.int x), u] [] h Q := by
  have hs := rcS hr
  refine bX11_beat_0 ⟨by decide, st_K_2 hs, w_needMachine hr hn hn5 (fun c => KK_exc rfl rfl rfl (k3 c _ (rc_thr hr))) ?_⟩
  intro m hm hmn
  have hm5 : m < 5 := by omega
  rw [KK_ret]
  refine bX11_beat_5 ⟨st_K_150 hs hm5, ?_⟩
  rw [rd_up hr hm5, rd_role hr hm5, st_R_1104_2 hs]
  refine ⟨fun c => k2 m hm hmn (fun w => w.1 c) _ (rc_thr hr), fun c => ⟨fun c2 => ⟨st_K_2 hs, by decide, st_K_133 hs, w_goOn hr ?_⟩, fun c2 => k2 m hm hmn (fun w => c2 w.2) _ (rc_thr hr)⟩⟩
  intro h1 hr1 er1 ear1
  have hs1 := rcS hr1
  rw [KK_ret]
  refine bX11_beat_38 ?_
  rw [st_R_1102_2 hs1]
  obtain ⟨l, hl1, hl2, hl3⟩ := hl m hmn
  refine ⟨st_K_2 hs1, by decide, st_K_131 hs1, bX6_letBeat_0 (w_beat_4 (S := stepS S) hm5 hn hn5 hl1 hl2 (hl3 c2) hq hq60 ?_ n 0 h1 none (Nat.zero_add _) hr1)⟩
  intro h2 e' hr2
  rw [KK_ret]
  have eb : beatN (stepS S) m n = beatN S m n := beatN_congr (S' := stepS S) (S := S) rfl rfl m n
  rw [eb]
  exact bX11_beat_46 (k m hm hmn ⟨c, c2⟩ h2 e1 hr2)
/-- whether a machine can answer a read -/
def readB (S : SI) (F : SF) (m na : Nat) : Prop := ¬ S 5 m = 0 ∧ (S 23 m = 1 ∧ fltG (F 7 m) (F 24 m) = true) ∧ (0 < (S 13 m).toInt ∧ tmAt S m (S 13 m) = S 9 m) ∧ na < 14
theorem c_read {na : Nat} (hr : RC S F e X h) (hn : S 0 0 = Int32.ofNat n) (hn5 : n ≤ 5) (ha : S 47 0 = Int32.ofNat na) (ha14 : na ≤ 14) (hl : ∀ m, m < n → ∃ l c, S 12 m = Int32.ofNat l ∧ l ≤ 30 ∧ S 13 m = Int32.ofNat c ∧ c ≤ l) (hz : ∀ m, m < n → S 23 m = 0 ∨ S 23 m = 1) {x : Int32} {u v : Option Value} (k3 : ¬ (0 ≤ x.toInt ∧ x.toInt < n) → ∀ h', RC S F e (thX X) h' → Q (.inr 3) h') (k2 : ∀ m, x = Int32.ofNat m → m < n → ¬ readB S F m na → ∀ h', RC S F e (thX X) h' → Q (.inr 2) h') (k : ∀ m, x = Int32.ofNat m → m < n → readB S F m na → ∀ h', RC (readS (stepS S) m) F e X h' → Q (.inl (some (.int (valU S m (nt (S 13 m)))))) h') : WP (d + 4) mX11_read 0 [some (.ref 2), some (.int x), u, v] [] h Q := by
  have hs := rcS hr
  refine bX11_read_0 ⟨by decide, st_K_2 hs, w_needMachine hr hn hn5 (fun c => KK_exc rfl rfl rfl (k3 c _ (rc_thr hr))) ?_⟩
  intro m hm hmn
  have hm5 : m < 5 := by omega
  obtain ⟨l, c, hl1, hl2, hc1, hc2⟩ := hl m hmn
  rw [KK_ret]
  refine bX11_read_5 ⟨st_K_150 hs hm5, ?_⟩
  rw [rd_up hr hm5]
  refine ⟨fun c1 => k2 m hm hmn (fun w => w.1 c1) _ (rc_thr hr), fun c1 => ⟨by omega, w_holdsLease hr hm5 (hz m hmn) ?_⟩⟩
  rw [KK_ret]
  refine bX11_read_17 ?_
  rw [b2i_z]
  refine ⟨fun c2 => k2 m hm hmn (fun w => by rw [decide_eq_true w.2.1.1, w.2.1.2] at c2; exact absurd c2 (by decide)) _ (rc_thr hr), fun c2 => ⟨by omega, st_K_150 hs hm5, w_agreed hr hm5 (by rw [hl1, o_i _ (by omega)]; omega) ?_⟩⟩
  rw [KK_ret]
  refine bX11_read_24 ?_
  rw [b2i_z, decide_eq_false_iff_not, st_R_1104_2 hs]
  refine ⟨fun c3 => k2 m hm hmn (fun w => c3 w.2.2.1) _ (rc_thr hr), fun c3 => ⟨st_K_2 hs, by decide, st_K_133 hs, w_hFull hr ha ha14 ?_⟩⟩
  rw [KK_ret]
  refine bX11_read_34 ?_
  rw [b2i_z, decide_eq_false_iff_not, st_R_1104_2 hs]
  refine ⟨fun c4 => ⟨st_K_2 hs, by decide, st_K_133 hs, w_goOn hr ?_⟩, fun c4 => k2 m hm hmn (fun w => c4 (by have := w.2.2.2; omega)) _ (rc_thr hr)⟩
  intro h1 hr1 er1 ear1
  have hs1 := rcS hr1
  rw [KK_ret]
  have hrb : readB S F m na := by
    refine ⟨c1, ?_, Classical.not_not.mp c3, by omega⟩
    cases hq : (decide (S 23 m = 1) && fltG (F 7 m) (F 24 m)) with
    | false => exact absurd hq c2
    | true =>
      rw [Bool.and_eq_true, decide_eq_true_eq] at hq
      exact hq
  refine bX11_read_54 ⟨st_K_150 hs1 hm5, ?_⟩
  rw [rd_commit hr1 hm5, st_R_801_150 hs1 hm5]
  refine ⟨by omega, st_K_151 hs1 hm5, w_valueUpTo hs1 (rcL hr1) hm5 (by show (S 12 m).toInt ≤ 30; rw [hl1, o_i _ (by omega)]; omega) (by show 0 ≤ (S 13 m).toInt; rw [hc1, o_i _ (by omega)]; omega) (by show (S 13 m).toInt ≤ (S 12 m).toInt; rw [hc1, hl1, o_i _ (by omega), o_i _ (by omega)]; omega) ?_⟩
  rw [KK_ret]
  refine bX11_read_65 ?_
  rw [st_R_1104_2 hs1]
  refine ⟨st_K_2 hs1, by decide, st_K_133 hs1, w_addRead hr1 (n := na) ha (by have := hrb.2.2.2; omega) ?_⟩
  intro h2 hr2 er2
  rw [KK_ret]
  have ev : valU (stepS S) m (stepS S 13 m).toInt.toNat = valU S m (nt (S 13 m)) := valU_congr (S' := stepS S) (S := S) rfl rfl rfl m _
  rw [ev]
  exact bX11_read_74 (k m hm hmn hrb h2 hr2)
theorem c_propose {q : Nat} (hr : RC S F (e1, 0, e3) X h) (hn : S 0 0 = Int32.ofNat n) (hn5 : n ≤ 5) (hq : S 39 0 = Int32.ofNat q) (hq60 : q ≤ 60) (hb : ∀ m j, m < n → j < 4 → -1 ≤ (S 27 (4 * m + j)).toInt ∧ (S 27 (4 * m + j)).toInt ≤ 100000) {x y v : Int32} {u : Option Value} (k3 : ¬ ((0 ≤ x.toInt ∧ x.toInt < n) ∧ (0 ≤ y.toInt ∧ y.toInt < 4)) → ∀ h', RC S F (e1, 0, e3) (thX X) h' → Q (.inr 3) h') (k1 : ∀ m j, x = Int32.ofNat m → m < n → y = Int32.ofNat j → j < 4 → ¬ (0 ≤ v.toInt ∧ v.toInt ≤ 999) → ∀ h', RC S F (e1, 0, e3) (thX X) h' → Q (.inr 1) h') (k2 : ∀ m j, x = Int32.ofNat m → m < n → y = Int32.ofNat j → j < 4 → (0 ≤ v.toInt ∧ v.toInt ≤ 999) → S 5 m = 0 → ∀ h', RC S F (e1, 0, e3) (thX X) h' → Q (.inr 2) h') (k : ∀ m j, x = Int32.ofNat m → m < n → y = Int32.ofNat j → j < 4 → (0 ≤ v.toInt ∧ v.toInt ≤ 999) → ¬ S 5 m = 0 → ∀ h' e1', RC (propP (stepS S, F) m n j v).1 (propP (stepS S, F) m n j v).2 (e1', 0, e3) X h' → Q (.inl (some (.int (nextB m (S 27 (4 * m + j)))))) h') : WP (d + 3) mX11_propose 0 [some (.ref 2), some (.int x), some (.int y), some (.int v), u] [] h Q := by
  have hs := rcS hr
  refine bX11_propose_0 ⟨by decide, st_K_2 hs, w_needMachine hr hn hn5 (fun c => KK_exc rfl rfl rfl (k3 (fun w => c w.1) _ (rc_thr hr))) ?_⟩
  intro m hm hmn
  have hm5 : m < 5 := by omega
  rw [KK_ret]
  refine bX11_propose_5 ⟨by decide, st_K_2 hs, w_needChoice hr hm5 (fun c => KK_exc rfl rfl rfl (k3 (fun w => c w.2) _ (rc_thr hr))) ?_⟩
  intro j hj hj4
  rw [KK_ret]
  refine bX11_propose_14 (w_needRange (fun c => KK_exc rfl rfl rfl (k1 m j hm hmn hj hj4 c _ (rc_thr hr))) ?_)
  intro c1 c2
  rw [KK_ret]
  refine bX11_propose_23 ⟨st_K_150 hs hm5, ?_⟩
  rw [rd_up hr hm5, st_R_1104_2 hs]
  refine ⟨fun c3 => ⟨st_K_2 hs, by decide, st_K_133 hs, w_goOn hr ?_⟩, fun c3 => k2 m j hm hmn hj hj4 ⟨c1, c2⟩ (Classical.not_not.mp c3) _ (rc_thr hr)⟩
  intro h1 hr1 er1 ear1
  have hs1 := rcS hr1
  rw [KK_ret]
  refine bX11_propose_48 ?_
  rw [st_R_1103_2 hs1]
  have kk := k m j hm hmn hj hj4 ⟨c1, c2⟩ c3
  subst hj
  refine ⟨st_K_2 hs1, by decide, st_K_132 hs1, w_letPropose hr1 hm5 hj4 (n := n) hn hn5 hq hq60 (hb m j hmn hj4).1 (hb m j hmn hj4).2 ?_⟩
  intro h2 e' hr2
  rw [KK_ret]
  exact bX11_propose_59 (kk h2 e1 hr2)
end QHB
