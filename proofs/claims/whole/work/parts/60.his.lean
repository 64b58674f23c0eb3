/-! ===== the history of the class ===== -/
theorem rds_cong {f g : Nat → Int32} {n : Nat} (hfg : ∀ k, k < n → f k = g k) : rds f n = rds g n := by
  induction n with
  | zero => rfl
  | succ n ih =>
    unfold rds
    rw [hfg n (by omega), ih (fun k hk => hfg k (by omega))]
theorem rds_len {f : Nat → Int32} {n : Nat} : (rds f n).length ≤ n := by
  induction n with
  | zero => exact Nat.le_refl _
  | succ n ih =>
    unfold rds
    split
    · omega
    · rw [List.length_append]
      simp only [List.length_cons, List.length_nil]
      omega
section HIST
variable {S S' : SI} {F : SF} {e : EX} {X : MX} {h h' : HP} {d : Nat} {Q : Out → HP → Prop} {i : Nat} {e1 : Int32} {e3 : RW × UInt32} {a j n : Nat}
theorem rc_hist (hr : RC S F e X h) {n : Nat} (eI : ∀ f b, ¬ (f ≤ 5 ∧ b = 136 + n) → ¬ ((f = 402 ∨ f = 404) ∧ b = 133) → hI h' f b = hI h f b) (eF : hF h' = hF h) (eRR : hR h' = hR h) (eAI : hAI h' = hAI h) (eAF : hAF h' = hAF h) (key : ∀ b j, b ≠ 135 → hAR h' b j = hAR h b j) (eK : hK h' = hK h) (eL : hL h' = hL h) (eN : hN h' = hN h) (eC : hC h' = hC h) (eZ : hZ h' = hZ h) (eAL : hAL h' = hAL h) (eAD : hAD h' = hAD h) (eT : ∀ s, (s < 41 ∨ 47 < s) → S' s = S s) (hc' : gHist S' h') : RC S' F e X h' := by
  have mg : ∀ {w c b}, b ≠ 134 → MSGw w c h b → MSGw w c h' b := fun hb m => MSGw_of (fun f h1 h2 => eI f _ (by omega) (by omega)) (by rw [eF]) (fun k => key _ k (by omega)) (fun f b h1 h2 _ => eI f b (by omega) (by omega)) (fun b _ => by rw [eK]) (by rw [eN]; exact Nat.le_refl _) m
  obtain ⟨hs, hrow, hm, hl, hle, hc, hnet, hh, hg⟩ := hr
  refine ⟨⟨?_, ?_, fun i hi => ?_, fun i d hi hd => ?_, fun i hi => ?_⟩, ?_, fun i hi => ?_, fun i hi => ⟨?_, fun k1 hk hq => ?_⟩, fun i hi => ?_, fun i1 d1 hi1 hd1 => ?_, ⟨?_, ?_, ?_, ?_, fun q hq hqn => ?_, ?_⟩, hc', ?_, ?_⟩
  · rw [eK, eL]; exact hs.1
  · rw [eRR]; exact hs.2.1
  · have q := hs.2.2.1 i hi
    rw [key _ _ (by omega), eK, eL, eRR]
    simp (disch := omega) only [eI]
    exact q
  · rw [key _ _ (by omega), eK]; exact hs.2.2.2.1 i d hi hd
  · rw [key _ _ (by omega), eK]; exact hs.2.2.2.2 i hi
  · unfold gRow
    rw [eRR, eK, eL, eN]
    obtain ⟨r1, r2, r3, r4, r5⟩ := hrow
    refine ⟨fun p hp => ?_, r2, fun p q hp hq => ?_, fun p hp => ?_, fun b hb => ⟨(r5 b hb).1, (r5 b hb).2.1, (r5 b hb).2.2.1, (r5 b hb).2.2.2.1, ?_, fun j hj => ?_⟩⟩
    · rw [key _ _ (by omega)]; exact r1 p hp
    · rw [key _ _ (by omega), key _ _ (by omega)]; exact r3 p q hp hq
    · rw [key _ _ (by omega)]; exact r4 p hp
    · rw [eI _ _ (by omega) (by omega)]; exact (r5 b hb).2.2.2.2.1
    · have hb9 : b ≤ 129 := by
        rcases hb with hb | rfl
        · exact (mset_hi hb).1
        · omega
      rw [key _ _ (by omega)]
      exact (r5 b hb).2.2.2.2.2 j hj
  · have q := hm i hi
    simp (disch := omega) only [eI, eT]
    rw [eF]
    exact q
  · rw [eI _ _ (by omega) (by omega), eT _ (by omega)]; exact (hl i hi).1
  · rw [eT 12 (by omega)] at hq
    rw [key _ _ (by omega), eT 14 (by omega), eT 15 (by omega), eT 16 (by omega), eT 17 (by omega)]
    exact EN_of (fun f b h1 h2 _ => eI f b (by omega) (by omega)) (fun b _ => by rw [eK]) (by rw [eN]; exact Nat.le_refl _) ((hl i hi).2 k1 hk hq)
  · have q := hle i hi
    simp (disch := omega) only [eI, eT]
    rw [eF, eAI, eAF]
    exact q
  · have q := hc i1 d1 hi1 hd1
    simp (disch := omega) only [eI, eT]
    exact q
  · rw [eI _ _ (by omega) (by omega), eT _ (by omega)]; exact hnet.1
  · rw [eI _ _ (by omega) (by omega), eT _ (by omega)]; exact hnet.2.1
  · rw [eI _ _ (by omega) (by omega), eT _ (by omega)]; exact hnet.2.2.1
  · rw [eAI, eT 6 (by omega)]; exact hnet.2.2.2.1
  · rw [eT 39 (by omega)] at hqn
    unfold MSG
    rw [key _ _ (by omega), eT 37 (by omega)]
    have := mset_hi (hrow.1 q hq)
    exact mg (by omega) (hnet.2.2.2.2.1 q hq hqn)
  · rw [eRR]
    have := mset_hi hrow.2.1
    exact mg (by omega) hnet.2.2.2.2.2
  · unfold gGlob; rw [eF]; exact hg.1
  · obtain ⟨g1, g2, g3, g4, g5, g6, g7⟩ := hg.2
    refine ⟨fun K => ?_, fun K => ?_, by rw [eC]; exact g3, by rw [eZ]; exact g4, by rw [eL]; exact g5, by rw [eAI]; exact g6, by rw [eN, eC, eK, eL, eAL, eAD]; exact g7⟩
    · replace g1 := g1 K
      unfold STM
      rw [eRR, eK, eL]
      exact g1
    · replace g2 := g2 K
      unfold RMo
      rw [eF, eAI, eAF]
      simp (disch := omega) only [eI]
      exact g2
theorem rd_acts (hr : RC S F e X h) : hI h 402 133 = S 47 0 := (rcH hr).1
theorem rd_steps (hr : RC S F e X h) : hI h 403 133 = S 4 0 := (rcH hr).2.1
theorem rd_act (hr : RC S F e X h) (hn : S 47 0 = Int32.ofNat n) (hn14 : n ≤ 14) (ha : a < n) : hI h 0 (136 + a) = S 41 a ∧ (S 41 a = 1 → hI h 1 (136 + a) = S 42 a ∧ hI h 2 (136 + a) = S 43 a) ∧ hI h 3 (136 + a) = S 44 a ∧ hI h 4 (136 + a) = S 45 a ∧ hI h 5 (136 + a) = S 46 a := (rcH hr).2.2.2.2 a (by omega) (by rw [hn, o_i _ (by omega)]; omega)
theorem w_goOn (hr : RC S F e X h) (k : ∀ h', RC (stepS S) F e X h' → hR h' = hR h → hAR h' = hAR h → Q (.inl none) h') : WP d mX4_goOn 0 [some (.ref 133)] [] h Q := by
  refine bX4_goOn_0 ⟨st_K_133 (rcS hr), ?_⟩
  rw [rd_steps hr]
  exact k _ (rc_steps hr) rfl rfl
theorem w_hFull (hr : RC S F e X h) (hn : S 47 0 = Int32.ofNat n) (hn14 : n ≤ 14) (k : Q (.inl (some (.int (b2i (decide (14 ≤ n)))))) h) : WP d mX4_isFull 0 [some (.ref 133)] [] h Q := by
  refine bX4_isFull_0 ⟨st_K_133 (rcS hr), ?_⟩
  rw [rd_acts hr, hn, o_ltn _ _ (by decide) (by omega)]
  refine ⟨fun c => ?_, fun c => ?_⟩
  · simpa [b2i, show ¬ 14 ≤ n by omega] using k
  · simpa [b2i, show 14 ≤ n by omega] using k
theorem w_hAt (hr : RC S F e X h) (hn : S 47 0 = Int32.ofNat n) (hn14 : n ≤ 14) {x : Int32} (k : Q (.inl (some (.ref (if 0 ≤ x.toInt ∧ x.toInt < n then 136 + x.toInt.toNat else 0)))) h) : WP d mX4_at 0 [some (.ref 133), some (.int x)] [] h Q := by
  have hs := rcS hr
  refine bX4_at_0 ?_
  rw [rd_acts hr, hn, Int32.lt_iff_toInt_lt, i_zero, Int32.le_iff_toInt_le, o_i _ (by omega), st_R_400_133 hs, st_K_134 hs]
  refine ⟨fun c => ?_, fun c => ⟨st_K_133 hs, fun c2 => ?_, fun c2 => ⟨⟨by decide, by decide⟩, inA_of (st_L_134 hs) (by omega) (by omega), ?_⟩⟩⟩
  · rw [if_neg (by omega)] at k; exact k
  · rw [if_neg (by omega)] at k; exact k
  · rw [if_pos (by omega)] at k
    have e : x.toNatClampNeg = x.toInt.toNat := rfl
    rw [e, st_AR_134_e hs (by omega)]
    exact k
def fwR (o : Option Nat) : Nat := match o with
  | some a => 136 + a
  | none => 0
theorem w_findWrite (hr : RC S F e X h) (hn : S 47 0 = Int32.ofNat n) (hn14 : n ≤ 14) (hz : ∀ a, a < n → S 41 a = 0 ∨ S 41 a = 1) {c s : Int32} :
    ∀ (m j : Nat), j + m = n → Q (.inl (some (.ref (fwR (actOf S c s j m))))) h → WP d mX4_findWrite 2 [some (.ref 133), some (.int c), some (.int s), some (.int (Int32.ofNat j))] [] h Q := by
  have hs := rcS hr
  intro m
  induction m with
  | zero =>
    intro j hj k
    refine bX4_findWrite_2 ⟨st_K_133 hs, ?_⟩
    rw [rd_acts hr, hn, o_le _ _ (by omega) (by omega)]
    exact ⟨fun _ => k, fun c => by omega⟩
  | succ m ih =>
    intro j hj k
    have ra := rd_act hr hn hn14 (a := j) (by omega)
    refine bX4_findWrite_2 ⟨st_K_133 hs, ?_⟩
    rw [rd_acts hr, hn, o_le _ _ (by omega) (by omega), st_R_400_133 hs, st_K_134 hs, o_c _ (by omega), st_AR_134_e hs (by omega), ra.1, o_addn]
    unfold actOf at k
    refine ⟨fun c => by omega, fun _ => ⟨⟨by decide, by decide⟩, inA_o (st_L_134 hs) (by omega) (by decide), st_K_136 hs (by omega), fun c1 => ?_, fun c1 => ?_⟩⟩
    · rw [if_neg (by rw [c1]; exact fun q => absurd q.1 (by decide))] at k
      exact ih (j + 1) (by omega) k
    · have c1' : S 41 j = 1 := (hz j (by omega)).resolve_left c1
      rw [(ra.2.1 c1').1, (ra.2.1 c1').2]
      refine ⟨fun c2 => ?_, fun c2 => ⟨fun c3 => ?_, fun c3 => ?_⟩⟩
      · rw [if_neg (fun q => c2 q.2.1)] at k
        exact ih (j + 1) (by omega) k
      · rw [if_neg (fun q => c3 q.2.2)] at k
        exact ih (j + 1) (by omega) k
      · rw [if_pos ⟨c1', Classical.not_not.mp c2, Classical.not_not.mp c3⟩] at k
        exact k
theorem actS_eq {w c s v ans : Int32} (hn : S 47 0 = Int32.ofNat n) (hn14 : n ≤ 14) : actS S w c s v ans = u2 (u2 (u2 (u2 (u2 (u2 (u2 S 41 n w) 42 n c) 43 n s) 44 n v) 45 n (S 4 0)) 46 n ans) 47 0 (Int32.ofNat (n + 1)) := by
  unfold actS
  rw [nt_of hn (by omega), hn, o_addn]
theorem actS_at {w c s v ans : Int32} (hn : S 47 0 = Int32.ofNat n) (hn14 : n ≤ 14) : actS S w c s v ans 41 n = w ∧ actS S w c s v ans 42 n = c ∧ actS S w c s v ans 43 n = s ∧ actS S w c s v ans 44 n = v ∧ actS S w c s v ans 45 n = S 4 0 ∧ actS S w c s v ans 46 n = ans ∧ actS S w c s v ans 47 0 = Int32.ofNat (n + 1) := by
  rw [actS_eq hn hn14]
  refine ⟨?_, ?_, ?_, ?_, ?_, ?_, u2_eq⟩
  · rw [u2_ne (by omega), u2_ne (by omega), u2_ne (by omega), u2_ne (by omega), u2_ne (by omega), u2_ne (by omega), u2_eq]
  · rw [u2_ne (by omega), u2_ne (by omega), u2_ne (by omega), u2_ne (by omega), u2_ne (by omega), u2_eq]
  · rw [u2_ne (by omega), u2_ne (by omega), u2_ne (by omega), u2_ne (by omega), u2_eq]
  · rw [u2_ne (by omega), u2_ne (by omega), u2_ne (by omega), u2_eq]
  · rw [u2_ne (by omega), u2_ne (by omega), u2_eq]
  · rw [u2_ne (by omega), u2_eq]
theorem actS_ne {w c s v ans : Int32} (hn : S 47 0 = Int32.ofNat n) (hn14 : n ≤ 14) {f a : Nat} (h1 : f ≠ 47) (h2 : a ≠ n ∨ f < 41) : actS S w c s v ans f a = S f a := by
  rw [actS_eq hn hn14, u2_ne (by omega), u2_ne (by omega), u2_ne (by omega), u2_ne (by omega), u2_ne (by omega), u2_ne (by omega), u2_ne (by omega)]
theorem actS_out {w c s v ans : Int32} (hn : S 47 0 = Int32.ofNat n) (hn14 : n ≤ 14) {f : Nat} (h1 : f < 41 ∨ 47 < f) : actS S w c s v ans f = S f := by
  funext a
  rw [actS_eq hn hn14, u2_ne (by omega), u2_ne (by omega), u2_ne (by omega), u2_ne (by omega), u2_ne (by omega), u2_ne (by omega), u2_ne (by omega)]
theorem nclamp {n : Nat} (hn : n < 1000000) : (Int32.ofNat n).toNatClampNeg = n := Int32.toNatClampNeg_ofNat_of_lt (by omega)
theorem w_addWrite (hr : RC S F e X h) (hn : S 47 0 = Int32.ofNat n) (hn14 : n < 14) {c s v : Int32} {u : Option Value} (k : ∀ h', RC (actS S 1 c s v (-1)) F e X h' → hR h' = hR h → Q (.inl none) h') : WP (d + 1) mX4_addWrite 0 [some (.ref 133), some (.int c), some (.int s), some (.int v), u] [] h Q := by
  have hs := rcS hr
  have hh := rcH hr
  refine bX4_addWrite_0 ⟨st_K_133 hs, ?_⟩
  rw [rd_acts hr, hn, o_nle _ _ (by decide) (by omega), st_R_400_133 hs, o_c _ (by omega), st_AR_134_e hs (by omega), st_K_134 hs, o_addn]
  refine ⟨fun c => by omega, fun _ => ⟨⟨by decide, by decide⟩, inA_o (st_L_134 hs) (by omega) (by decide), by omega, st_K_136 hs (by omega), bX0_start_0 ⟨st_K_136 hs (by omega), rfl, ?_⟩⟩⟩
  rw [KK_ret]
  have e400 := rd_steps hr
  have e403 : hI (sI h 402 133 (Int32.ofNat (n + 1))) 403 133 = S 4 0 := e400
  rw [e403]
  obtain ⟨q1, q2, q3, q4, q5, q6, q7⟩ := actS_at (w := 1) (c := c) (s := s) (v := v) (ans := -1) hn (by omega)
  refine bX4_addWrite_41 ⟨st_K_136 hs (by omega), k _ ?_ (by simp only [hR_sI])⟩
  refine rc_hist (n := n) hr (fun f b h1 h2 => ?_) (by simp only [hF_sI]) (by simp only [hR_sI]) (by simp only [hAI_sI]) (by simp only [hAF_sI]) (fun b j hb => by simp only [hAR_sI]) (by simp only [hK_sI]) (by simp only [hL_sI]) (by simp only [hN_sI]) (by simp only [hC_sI]) (by simp only [hZ_sI]) (by simp only [hAL_sI]) (by simp only [hAD_sI]) (fun s hs => actS_out hn (by omega) hs) ⟨?_, ?_, ?_, fun r b hb => ?_, fun a ha hq => ?_⟩
  · rw [ne_sI (by omega), ne_sI (by omega), ne_sI (by omega), ne_sI (by omega), ne_sI (by omega), ne_sI (by omega), ne_sI (by omega), ne_sI (by omega), ne_sI (by omega)]
  · rw [ne_sI (by omega), ne_sI (by omega), ne_sI (by omega), ne_sI (by omega), ne_sI (by omega), ne_sI (by omega), ne_sI (by omega), ne_sI (by omega), hI_sI, if_pos ⟨rfl, rfl⟩, q7]
  · rw [ne_sI (by omega), ne_sI (by omega), ne_sI (by omega), ne_sI (by omega), ne_sI (by omega), ne_sI (by omega), ne_sI (by omega), ne_sI (by omega), ne_sI (by omega), actS_ne hn (by omega) (by decide) (Or.inr (by decide))]
    exact rd_steps hr
  · rw [ne_sI (by omega), ne_sI (by omega), ne_sI (by omega), ne_sI (by omega), ne_sI (by omega), ne_sI (by omega), ne_sI (by omega), ne_sI (by omega), ne_sI (by omega), hh.2.2.1, q7, nclamp (by omega), hn, nclamp (by omega)]
    unfold rds
    rw [if_pos q1, rds_cong (fun k hk => actS_ne hn (by omega) (by decide) (Or.inl (by omega)))]
    cases n <;> rfl
  · rw [q7, nclamp (by omega)] at hb
    unfold rds at hb
    rw [if_pos q1, rds_cong (g := S 41) (fun k hk => actS_ne hn (by omega) (by decide) (Or.inl (by omega)))] at hb
    simp only [hAR_sI]
    refine hh.2.2.2.1 r b ?_
    rw [hn, nclamp (by omega)]
    exact hb
  · rw [q7, o_i _ (by omega)] at hq
    by_cases c5 : a = n
    · subst c5
      rw [q1, q2, q3, q4, q5, q6]
      simp [hI_sI]
    · have ra := rd_act hr hn (by omega) (a := a) (by omega)
      rw [actS_ne hn (by omega) (by decide) (Or.inl c5), actS_ne hn (by omega) (by decide) (Or.inl c5), actS_ne hn (by omega) (by decide) (Or.inl c5), actS_ne hn (by omega) (by decide) (Or.inl c5), actS_ne hn (by omega) (by decide) (Or.inl c5), actS_ne hn (by omega) (by decide) (Or.inl c5)]
      have g : ∀ f, f ≤ 5 → hI (sI (sI (sI (sI (sI (sI (sI (sI (sI h 402 133 (Int32.ofNat (n + 1))) 0 (136 + n) 1) 3 (136 + n) v) 4 (136 + n) (S 4 0)) 5 (136 + n) (-1)) 1 (136 + n) (-1)) 2 (136 + n) (-1)) 1 (136 + n) c) 2 (136 + n) s) f (136 + a) = hI h f (136 + a) := fun f hf => by
        rw [ne_sI (by omega), ne_sI (by omega), ne_sI (by omega), ne_sI (by omega), ne_sI (by omega), ne_sI (by omega), ne_sI (by omega), ne_sI (by omega), ne_sI (by omega)]
      rw [g 0 (by decide), g 1 (by decide), g 2 (by decide), g 3 (by decide), g 4 (by decide), g 5 (by decide)]
      exact ra
theorem w_aStart {a : Nat} {x1 x2 x3 : Int32} (hk : hK h a = 0) (hx : isZ x1 = true) (k : ∀ h', (∀ f b, ¬ (f ≤ 5 ∧ b = a) → hI h' f b = hI h f b) → hI h' 0 a = x1 → hI h' 1 a = -1 → hI h' 2 a = -1 → hI h' 3 a = x2 → hI h' 4 a = x3 → hI h' 5 a = -1 → h'.2 = h.2 → Q (.inl none) h') : WP d mX0_start 0 [some (.ref a), some (.int x1), some (.int x2), some (.int x3)] [] h Q := by
  refine bX0_start_0 ⟨hk, hx, k _ (fun f b hq => ?_) ?_ ?_ ?_ ?_ ?_ ?_ ?_⟩
  · rw [ne_sI (by omega), ne_sI (by omega), ne_sI (by omega), ne_sI (by omega), ne_sI (by omega), ne_sI (by omega)]
  · rw [ne_sI (by omega), ne_sI (by omega), ne_sI (by omega), ne_sI (by omega), ne_sI (by omega), hI_sI, if_pos ⟨rfl, rfl⟩]
  · rw [ne_sI (by omega), hI_sI, if_pos ⟨rfl, rfl⟩]
  · rw [hI_sI, if_pos ⟨rfl, rfl⟩]
  · rw [ne_sI (by omega), ne_sI (by omega), ne_sI (by omega), ne_sI (by omega), hI_sI, if_pos ⟨rfl, rfl⟩]
  · rw [ne_sI (by omega), ne_sI (by omega), ne_sI (by omega), hI_sI, if_pos ⟨rfl, rfl⟩]
  · rw [ne_sI (by omega), ne_sI (by omega), hI_sI, if_pos ⟨rfl, rfl⟩]
  · rw [sI_snd, sI_snd, sI_snd, sI_snd, sI_snd, sI_snd]
theorem w_addRead (hr : RC S F e X h) (hn : S 47 0 = Int32.ofNat n) (hn14 : n < 14) {v : Int32} {u : Option Value} (k : ∀ h', RC (actS S 0 0 0 v (S 4 0)) F e X h' → hR h' = hR h → Q (.inl none) h') : WP (d + 1) mX4_addRead 0 [some (.ref 133), some (.int v), u] [] h Q := by
  have hs := rcS hr
  have hh := rcH hr
  have hlen := rds_len (f := S 41) (n := n)
  have e404 : hI h 404 133 = Int32.ofNat (rds (S 41) n).length := by rw [hh.2.2.1, hn, nclamp (by omega)]
  generalize hr0 : (rds (S 41) n).length = r0 at e404 hlen
  refine bX4_addRead_0 ⟨st_K_133 hs, ?_⟩
  rw [rd_acts hr, hn, o_nle _ _ (by decide) (by omega), st_R_400_133 hs, o_c _ (by omega), st_AR_134_e hs (by omega), st_K_134 hs, o_addn, e404, o_nle _ _ (by decide) (by omega)]
  have e400 := rd_steps hr
  refine ⟨fun c => by omega, fun _ => ⟨fun c => by omega, fun _ => ⟨⟨by decide, by decide⟩, inA_o (st_L_134 hs) (by omega) (by decide), by omega, st_K_136 hs (by omega), w_aStart (st_K_136 hs (by omega)) rfl ?_⟩⟩⟩
  intro h1 g g0 g1 g2 g3 g4 g5 er
  rw [KK_ret]
  have e403 : hI (sI h 402 133 (Int32.ofNat (n + 1))) 403 133 = S 4 0 := by rw [ne_sI (by omega)]; exact e400
  rw [e403] at g4
  rw [sI_snd] at er
  have eF : hF h1 = hF h := congrArg (fun x : (Nat → Nat → UInt32) × _ => x.1) er
  have eRR : hR h1 = hR h := congrArg (fun x => x.2.1) er
  have eAI : hAI h1 = hAI h := congrArg (fun x => x.2.2.1) er
  have eAF : hAF h1 = hAF h := congrArg (fun x => x.2.2.2.1) er
  have eAR : hAR h1 = hAR h := congrArg (fun x => x.2.2.2.2.1) er
  have eAL : hAL h1 = hAL h := congrArg (fun x => x.2.2.2.2.2.1) er
  have eAD : hAD h1 = hAD h := congrArg (fun x => x.2.2.2.2.2.2.1) er
  have eK : hK h1 = hK h := congrArg (fun x => x.2.2.2.2.2.2.2.1) er
  have eL : hL h1 = hL h := congrArg (fun x => x.2.2.2.2.2.2.2.2.1) er
  have eN : hN h1 = hN h := congrArg (fun x => x.2.2.2.2.2.2.2.2.2.1) er
  have eC : hC h1 = hC h := congrArg (fun x => x.2.2.2.2.2.2.2.2.2.2.1) er
  have eZ : hZ h1 = hZ h := congrArg (fun x => x.2.2.2.2.2.2.2.2.2.2.2) er
  clear er
  have f403 : hI h1 403 133 = S 4 0 := by rw [g _ _ (by omega), e403]
  have f404 : hI h1 404 133 = Int32.ofNat r0 := by rw [g _ _ (by omega), ne_sI (by omega)]; exact e404
  have f402 : hI h1 402 133 = Int32.ofNat (n + 1) := by rw [g _ _ (by omega), hI_sI, if_pos ⟨rfl, rfl⟩]
  have gg : ∀ f b, ¬ (f ≤ 5 ∧ b = 136 + n) → ¬ (f = 402 ∧ b = 133) → hI h1 f b = hI h f b := fun f b h1 h2 => by rw [g _ _ h1, ne_sI h2]
  clear g
  refine bX4_addRead_48 ?_
  have f404' : hI (sI h1 5 (136 + n) (hI h1 403 133)) 404 133 = Int32.ofNat r0 := by rw [ne_sI (by omega)]; exact f404
  rw [f404', eRR, st_R_401_133 hs, o_c _ (by omega), o_addn, f403, eK, st_K_133 hs, st_K_135 hs, st_K_136 hs (by omega)]
  have iA : inA h1 135 (Int32.ofNat r0) = true := inA_o (L := 14) (by rw [eL]; exact st_L_135 hs) (by omega) (by decide)
  refine ⟨rfl, rfl, ⟨by decide, by decide⟩, iA, ⟨by omega, rfl⟩, ?_⟩
  obtain ⟨q1, q2, q3, q4, q5, q6, q7⟩ := actS_at (w := 0) (c := 0) (s := 0) (v := v) (ans := S 4 0) hn (by omega)
  have key : ∀ b j, b ≠ 135 → hAR (sI (sAR (sI h1 5 (136 + n) (S 4 0)) 135 r0 (136 + n)) 404 133 (Int32.ofNat (r0 + 1))) b j = hAR h b j := fun b j hb => by
    rw [hAR_sI, hAR_sAR, if_neg (fun w => hb w.1), hAR_sI, eAR]
  have k135 : ∀ j, hAR (sI (sAR (sI h1 5 (136 + n) (S 4 0)) 135 r0 (136 + n)) 404 133 (Int32.ofNat (r0 + 1))) 135 j = if j = r0 then 136 + n else hAR h 135 j := fun j => by
    rw [hAR_sI, hAR_sAR, hAR_sI, eAR]
    by_cases c : j = r0
    · rw [if_pos ⟨rfl, c⟩, if_pos c]
    · rw [if_neg (fun w => c w.2), if_neg c]
  have kI : ∀ f b, hI (sI (sAR (sI h1 5 (136 + n) (S 4 0)) 135 r0 (136 + n)) 404 133 (Int32.ofNat (r0 + 1))) f b = if f = 404 ∧ b = 133 then Int32.ofNat (r0 + 1) else if f = 5 ∧ b = 136 + n then S 4 0 else hI h1 f b := fun f b => by
    rw [hI_sI, hI_sAR, hI_sI]
  have kF : hF (sI (sAR (sI h1 5 (136 + n) (S 4 0)) 135 r0 (136 + n)) 404 133 (Int32.ofNat (r0 + 1))) = hF h := by rw [hF_sI, hF_sAR, hF_sI, eF]
  have kR : hR (sI (sAR (sI h1 5 (136 + n) (S 4 0)) 135 r0 (136 + n)) 404 133 (Int32.ofNat (r0 + 1))) = hR h := by rw [hR_sI, hR_sAR, hR_sI, eRR]
  have kAI : hAI (sI (sAR (sI h1 5 (136 + n) (S 4 0)) 135 r0 (136 + n)) 404 133 (Int32.ofNat (r0 + 1))) = hAI h := by rw [hAI_sI, hAI_sAR, hAI_sI, eAI]
  have kAF : hAF (sI (sAR (sI h1 5 (136 + n) (S 4 0)) 135 r0 (136 + n)) 404 133 (Int32.ofNat (r0 + 1))) = hAF h := by rw [hAF_sI, hAF_sAR, hAF_sI, eAF]
  have kK : hK (sI (sAR (sI h1 5 (136 + n) (S 4 0)) 135 r0 (136 + n)) 404 133 (Int32.ofNat (r0 + 1))) = hK h := by rw [hK_sI, hK_sAR, hK_sI, eK]
  have kL : hL (sI (sAR (sI h1 5 (136 + n) (S 4 0)) 135 r0 (136 + n)) 404 133 (Int32.ofNat (r0 + 1))) = hL h := by rw [hL_sI, hL_sAR, hL_sI, eL]
  have kN : hN (sI (sAR (sI h1 5 (136 + n) (S 4 0)) 135 r0 (136 + n)) 404 133 (Int32.ofNat (r0 + 1))) = hN h := by rw [hN_sI, hN_sAR, hN_sI, eN]
  have kC : hC (sI (sAR (sI h1 5 (136 + n) (S 4 0)) 135 r0 (136 + n)) 404 133 (Int32.ofNat (r0 + 1))) = hC h := by rw [hC_sI, hC_sAR, hC_sI, eC]
  have kZ : hZ (sI (sAR (sI h1 5 (136 + n) (S 4 0)) 135 r0 (136 + n)) 404 133 (Int32.ofNat (r0 + 1))) = hZ h := by rw [hZ_sI, hZ_sAR, hZ_sI, eZ]
  have kAL : hAL (sI (sAR (sI h1 5 (136 + n) (S 4 0)) 135 r0 (136 + n)) 404 133 (Int32.ofNat (r0 + 1))) = hAL h := by rw [hAL_sI, hAL_sAR, hAL_sI, eAL]
  have kAD : hAD (sI (sAR (sI h1 5 (136 + n) (S 4 0)) 135 r0 (136 + n)) 404 133 (Int32.ofNat (r0 + 1))) = hAD h := by rw [hAD_sI, hAD_sAR, hAD_sI, eAD]
  generalize sI (sAR (sI h1 5 (136 + n) (S 4 0)) 135 r0 (136 + n)) 404 133 (Int32.ofNat (r0 + 1)) = H at key k135 kI kF kR kAI kAF kK kL kN kC kZ kAL kAD ⊢
  have er : rds (actS S 0 0 0 v (S 4 0) 41) (n + 1) = rds (S 41) n ++ [n] := by
    show (if actS S 0 0 0 v (S 4 0) 41 n = 1 then rds (actS S 0 0 0 v (S 4 0) 41) n else rds (actS S 0 0 0 v (S 4 0) 41) n ++ [n]) = _
    rw [q1, if_neg (by decide), rds_cong (g := S 41) (fun k hk => actS_ne hn (by omega) (by decide) (Or.inl (by omega)))]
  refine k H (rc_hist (n := n) hr (fun f b h1 h2 => ?_) kF kR kAI kAF key kK kL kN kC kZ kAL kAD (fun s hs => actS_out hn (by omega) hs) ⟨?_, ?_, ?_, fun r b hb => ?_, fun a ha hq => ?_⟩) kR
  · rw [kI, if_neg (by omega), if_neg (by omega)]
    exact gg f b h1 (by omega)
  · rw [kI, if_neg (by omega), if_neg (by omega), f402, q7]
  · rw [kI, if_neg (by omega), if_neg (by omega), f403, actS_ne hn (by omega) (by decide) (Or.inr (by decide))]
  · rw [kI, if_pos ⟨rfl, rfl⟩, q7, nclamp (by omega), er, List.length_append, hr0]
    rfl
  · rw [q7, nclamp (by omega), er] at hb
    rw [k135]
    by_cases c5 : r = r0
    · subst c5
      rw [← hr0, List.getElem?_append_right (Nat.le_refl _), Nat.sub_self] at hb
      rw [if_pos rfl]
      have : n = b := by simpa using hb
      rw [this]
    · rw [if_neg c5]
      have hlt : r < (rds (S 41) n).length := by
        have := (List.getElem?_eq_some_iff.mp hb).1
        rw [List.length_append] at this
        simp only [List.length_cons, List.length_nil] at this
        omega
      rw [List.getElem?_append_left hlt] at hb
      refine hh.2.2.2.1 r b ?_
      rw [hn, nclamp (by omega)]
      exact hb
  · rw [q7, o_i _ (by omega)] at hq
    by_cases c5 : a = n
    · subst c5
      rw [q1, q2, q3, q4, q5, q6, kI, kI, kI, kI, kI, kI, if_neg (by omega), if_neg (by omega), if_neg (by omega), if_neg (by omega), if_neg (by omega), if_neg (by omega), if_neg (by omega), if_neg (by omega), if_neg (by omega), if_neg (by omega), if_neg (by omega), if_pos ⟨rfl, rfl⟩]
      exact ⟨g0, fun w => absurd w (by decide), g3, g4, rfl⟩
    · have ra := rd_act hr hn (by omega) (a := a) (by omega)
      rw [actS_ne hn (by omega) (by decide) (Or.inl c5), actS_ne hn (by omega) (by decide) (Or.inl c5), actS_ne hn (by omega) (by decide) (Or.inl c5), actS_ne hn (by omega) (by decide) (Or.inl c5), actS_ne hn (by omega) (by decide) (Or.inl c5), actS_ne hn (by omega) (by decide) (Or.inl c5)]
      have g : ∀ f, f ≤ 5 → hI H f (136 + a) = hI h f (136 + a) := fun f hf => by
        rw [kI, if_neg (by omega), if_neg (by omega)]
        exact gg f _ (by omega) (by omega)
      rw [g 0 (by decide), g 1 (by decide), g 2 (by decide), g 3 (by decide), g 4 (by decide), g 5 (by decide)]
      exact ra
theorem rc_ans (hr : RC S F e X h) {v : Int32} : RC (u2 S 46 a v) F e X (sI h 5 (136 + a) v) := by
  obtain ⟨hs, hrow, hm, hl, hle, hc, hnet, hh, hg⟩ := hr
  refine ⟨STR_sI (by decide) hs, hrow, hm, hl, hle, hc, hnet, ⟨hh.1, hh.2.1, hh.2.2.1, hh.2.2.2.1, fun b hb hq => ?_⟩, hg⟩
  have q := hh.2.2.2.2 b hb hq
  refine ⟨q.1, q.2.1, q.2.2.1, q.2.2.2.1, ?_⟩
  show (if 5 = 5 ∧ 136 + b = 136 + a then v else hI h 5 (136 + b)) = _
  by_cases c : b = a
  · subst c; rw [if_pos ⟨rfl, rfl⟩, u2_eq]
  · rw [if_neg (by omega), u2_ne (by omega)]; exact q.2.2.2.2
/-- whether the entry of act a is agreed at machine i, by the first entry of its client and serial -/
def agrC (S : SI) (i a : Nat) : Bool := decide (1 ≤ numG S i (S 42 a) (S 43 a) 0 (nt (S 12 i)) ∧ (numG S i (S 42 a) (S 43 a) 0 (nt (S 12 i)) : Int) ≤ (S 13 i).toInt)
/-- the first j acts that machine i answers -/
def ansS (S : SI) (i j : Nat) : SI := fun s k => if s = 46 ∧ (k < j ∧ S 41 k = 1 ∧ S 46 k = -1 ∧ agrC S i k = true) then S 4 0 else S s k
theorem numG_congr {S S' : SI} (h1 : S' 15 = S 15) (h2 : S' 16 = S 16) (i : Nat) (c s : Int32) (m : Nat) : ∀ j, numG S' i c s j m = numG S i c s j m := by
  induction m with
  | zero => intro j; rfl
  | succ m ih => intro j; unfold numG; rw [h1, h2, ih]
theorem numG_le {i : Nat} {c s : Int32} (m : Nat) : ∀ j, numG S i c s j m ≤ j + m := by
  induction m with
  | zero => intro j; exact Nat.zero_le _
  | succ m ih =>
    intro j
    unfold numG
    split
    · omega
    · have := ih (j + 1); omega
theorem ansS_ne {s : Nat} (hs : s ≠ 46) : ansS S i j s = S s := by
  funext k
  unfold ansS
  rw [if_neg (fun q => hs q.1)]
theorem ansS_hi (hk : j ≤ a) : ansS S i j 46 a = S 46 a := by
  unfold ansS
  rw [if_neg (by omega)]
theorem ansS_skip (hc : ¬ (S 41 j = 1 ∧ S 46 j = -1 ∧ agrC S i j = true)) : ansS S i (j + 1) = ansS S i j := by
  funext s k
  show (if s = 46 ∧ (k < j + 1 ∧ S 41 k = 1 ∧ S 46 k = -1 ∧ agrC S i k = true) then S 4 0 else S s k) = (if s = 46 ∧ (k < j ∧ S 41 k = 1 ∧ S 46 k = -1 ∧ agrC S i k = true) then S 4 0 else S s k)
  by_cases c : k = j
  · subst c
    rw [if_neg (fun q => hc ⟨q.2.2.1, q.2.2.2.1, q.2.2.2.2⟩), if_neg (by omega)]
  · by_cases c2 : s = 46 ∧ (k < j ∧ S 41 k = 1 ∧ S 46 k = -1 ∧ agrC S i k = true)
    · rw [if_pos c2, if_pos ⟨c2.1, by omega, c2.2.2.1, c2.2.2.2.1, c2.2.2.2.2⟩]
    · rw [if_neg c2, if_neg (fun q => c2 ⟨q.1, by omega, q.2.2.1, q.2.2.2.1, q.2.2.2.2⟩)]
theorem ansS_do (hc : S 41 j = 1 ∧ S 46 j = -1 ∧ agrC S i j = true) : ansS S i (j + 1) = u2 (ansS S i j) 46 j (S 4 0) := by
  funext s k
  show (if s = 46 ∧ (k < j + 1 ∧ S 41 k = 1 ∧ S 46 k = -1 ∧ agrC S i k = true) then S 4 0 else S s k) = (if s = 46 ∧ k = j then S 4 0 else if s = 46 ∧ (k < j ∧ S 41 k = 1 ∧ S 46 k = -1 ∧ agrC S i k = true) then S 4 0 else S s k)
  by_cases c : s = 46 ∧ k = j
  · rw [if_pos c, c.2, if_pos ⟨c.1, by omega, hc.1, hc.2.1, hc.2.2⟩]
  · rw [if_neg c]
    by_cases c2 : s = 46 ∧ (k < j ∧ S 41 k = 1 ∧ S 46 k = -1 ∧ agrC S i k = true)
    · rw [if_pos c2, if_pos ⟨c2.1, by omega, c2.2.2.1, c2.2.2.2.1, c2.2.2.2.2⟩]
    · rw [if_neg c2, if_neg (fun q => c2 ⟨q.1, by omega, q.2.2.1, q.2.2.2.1, q.2.2.2.2⟩)]
theorem w_ansW_11 (hi : i < 5) (hl0 : 0 ≤ (S 12 i).toInt) (h30 : (S 12 i).toInt ≤ 30) (hn : S 47 0 = Int32.ofNat n) (hn14 : n ≤ 14) (hz : ∀ a, a < n → S 41 a = 0 ∨ S 41 a = 1) (k : ∀ h', RC (ansS S i n) F e X h' → Q (.inl none) h') :
    ∀ (m j : Nat) (h : HP) (u : Option Value), j + m = n → RC (ansS S i j) F e X h → WP (d + 1) mX4_answerWrites 11 [some (.ref 133), some (.ref (150 + 12 * i)), some (.int (Int32.ofNat j)), u] [] h Q := by
  obtain ⟨l, hl, hl30, hlt⟩ := o_of hl0 h30
  have hnl : nt (S 12 i) = l := nt_of hl (by omega)
  intro m
  induction m with
  | zero =>
    intro j h u hj hr
    obtain rfl : j = n := by omega
    refine bX4_answerWrites_11 ⟨st_K_133 (rcS hr), ?_⟩
    rw [rd_acts hr, ansS_ne (by decide), hn, o_le _ _ (by omega) (by omega)]
    exact ⟨fun _ => k h hr, fun c => absurd (Nat.le_refl _) c⟩
  | succ m ih =>
    intro j h u hj hr
    have hs := rcS hr
    have ra := rd_act hr (n := n) (by rw [ansS_ne (by decide)]; exact hn) hn14 (a := j) (by omega)
    rw [ansS_hi (Nat.le_refl _), ansS_ne (by decide), ansS_ne (by decide), ansS_ne (by decide), ansS_ne (by decide), ansS_ne (by decide)] at ra
    refine bX4_answerWrites_11 ⟨st_K_133 hs, ?_⟩
    rw [rd_acts hr, ansS_ne (by decide), hn, o_le _ _ (by omega) (by omega), st_R_400_133 hs, o_c _ (by omega), st_AR_134_e hs (by omega), st_K_134 hs, ra.1, ra.2.2.2.2, o_addn, st_R_801_150 hs hi]
    refine ⟨fun c => by omega, fun _ => ⟨⟨by decide, by decide⟩, inA_o (st_L_134 hs) (by omega) (by decide), st_K_136 hs (by omega), fun c1 => ?_, fun c1 => ⟨fun c2 => ?_, fun c2 => ⟨st_K_150 hs hi, by omega, st_K_151 hs hi, ?_⟩⟩⟩⟩
    · exact ih (j + 1) h u (by omega) (by rw [ansS_skip (fun q => by rw [c1] at q; exact absurd q.1 (by decide))]; exact hr)
    · exact ih (j + 1) h u (by omega) (by rw [ansS_skip (fun q => c2 q.2.1)]; exact hr)
    · have c1' : S 41 j = 1 := (hz j (by omega)).resolve_left c1
      have c2' : S 46 j = -1 := Classical.not_not.mp c2
      rw [(ra.2.1 c1').1, (ra.2.1 c1').2]
      refine w_numberOf hs (rcL hr) hi (by rw [ansS_ne (by decide)]; exact hl0) (by rw [ansS_ne (by decide)]; exact h30) ?_
      rw [KK_ret]
      have eg : numG (ansS S i j) i (S 42 j) (S 43 j) 0 (ansS S i j 12 i).toInt.toNat = numG S i (S 42 j) (S 43 j) 0 l := by
        rw [numG_congr (ansS_ne (by decide)) (ansS_ne (by decide)), ansS_ne (by decide), hlt]
        rfl
      have gle := numG_le (S := S) (i := i) (c := S 42 j) (s := S 43 j) l 0
      rw [eg]
      have ag : agrC S i j = true ↔ (1 ≤ numG S i (S 42 j) (S 43 j) 0 l ∧ (numG S i (S 42 j) (S 43 j) 0 l : Int) ≤ (S 13 i).toInt) := by
        unfold agrC
        rw [hnl, decide_eq_true_iff]
      refine bX4_answerWrites_69 ?_
      rw [rd_commit hr hi, ansS_ne (by decide), o_addn, st_R_400_133 hs, o_c _ (by omega), st_AR_134_e hs (by omega), st_K_134 hs, rd_steps hr, ansS_ne (by decide), o_ltn _ _ (by decide) (by omega), Int32.lt_iff_toInt_lt, o_i _ (by omega)]
      refine ⟨fun c3 => ?_, fun c3 => ⟨st_K_150 hs hi, fun c4 => ?_, fun c4 => ⟨st_K_133 hs, ⟨by decide, by decide⟩, inA_o (st_L_134 hs) (by omega) (by decide), st_K_136 hs (by omega), ?_⟩⟩⟩
      · exact ih (j + 1) h _ (by omega) (by rw [ansS_skip (fun q => by have := ag.mp q.2.2; omega)]; exact hr)
      · exact ih (j + 1) h _ (by omega) (by rw [ansS_skip (fun q => by have := ag.mp q.2.2; omega)]; exact hr)
      · exact ih (j + 1) _ _ (by omega) (by rw [ansS_do ⟨c1', c2', ag.mpr ⟨by omega, by omega⟩⟩]; exact rc_ans hr)
theorem w_answerWrites (hr : RC S F e X h) (hi : i < 5) (hl0 : 0 ≤ (S 12 i).toInt) (h30 : (S 12 i).toInt ≤ 30) (hn : S 47 0 = Int32.ofNat n) (hn14 : n ≤ 14) (hz : ∀ a, a < n → S 41 a = 0 ∨ S 41 a = 1) {u v : Option Value} (k : ∀ h', RC (if S 11 i = 2 then ansS S i n else S) F e X h' → Q (.inl none) h') : WP (d + 1) mX4_answerWrites 0 [some (.ref 133), some (.ref (150 + 12 * i)), u, v] [] h Q := by
  refine bX4_answerWrites_0 ⟨st_K_150 (rcS hr) hi, ?_⟩
  rw [rd_role hr hi]
  refine ⟨fun c => ?_, fun c => ?_⟩
  · rw [if_pos c] at k
    refine w_ansW_11 hi hl0 h30 hn hn14 hz k n 0 h v (Nat.zero_add _) ?_
    have : ansS S i 0 = S := by
      funext s k
      unfold ansS
      rw [if_neg (by omega)]
    rw [this]
    exact hr
  · rw [if_neg c] at k
    exact k h hr
end HIST
