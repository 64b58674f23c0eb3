/-! ===== decisions of the class ===== -/
/-- what the class's cell of decision d of machine i says -/
def CHO (S : SI) (h : HP) (i d : Nat) : Prop := hI h 200 (158 + 12 * i + d) = S 27 (4 * i + d) ∧ hI h 201 (158 + 12 * i + d) = S 28 (4 * i + d) ∧ hI h 202 (158 + 12 * i + d) = S 29 (4 * i + d) ∧ hI h 203 (158 + 12 * i + d) = S 30 (4 * i + d) ∧ hI h 204 (158 + 12 * i + d) = S 31 (4 * i + d) ∧
  (S 31 (4 * i + d) ≠ -1 → hI h 206 (158 + 12 * i + d) = S 35 (4 * i + d) ∧ hI h 207 (158 + 12 * i + d) = (if S 35 (4 * i + d) = 1 then S 36 (4 * i + d) else S 33 (4 * i + d)) ∧ (S 35 (4 * i + d) = 1 → hI h 205 (158 + 12 * i + d) = S 32 (4 * i + d)) ∧ (S 35 (4 * i + d) ≠ 1 → hI h 208 (158 + 12 * i + d) = S 34 (4 * i + d) ∧ (if S 34 (4 * i + d) = -1 then hI h 205 (158 + 12 * i + d) else hI h 209 (158 + 12 * i + d)) = S 32 (4 * i + d)))
theorem rds_congr {f g : Nat → Int32} (hfg : f = g) (n : Nat) : rds f n = rds g n := by rw [hfg]
section CHOS
variable {S S' : SI} {F : SF} {e : EX} {X : MX} {h h' : HP} {d : Nat} {Q : Out → HP → Prop} {i : Nat} {e1 : Int32} {e3 : RW × UInt32} {a j : Nat}
theorem rc_cho (hr : RC S F e X h) (hi : i < 5) (hj : j < 4) (eI : ∀ f b, ¬ (200 ≤ f ∧ f ≤ 209 ∧ b = 158 + 12 * i + j) → hI h' f b = hI h f b) (eR : h'.2 = h.2) (eS : ∀ s k, ¬ (27 ≤ s ∧ s ≤ 36 ∧ k = 4 * i + j) → S' s k = S s k) (hc' : CHO S' h' i j) : RC S' F e X h' := by
  have eT : ∀ s, (s < 27 ∨ 36 < s) → S' s = S s := fun s hs => funext fun k => eS s k (by omega)
  have eF : hF h' = hF h := congrArg (fun x : (Nat → Nat → UInt32) × _ => x.1) eR
  have eRR : hR h' = hR h := congrArg (fun x => x.2.1) eR
  have eAI : hAI h' = hAI h := congrArg (fun x => x.2.2.1) eR
  have eAF : hAF h' = hAF h := congrArg (fun x => x.2.2.2.1) eR
  have eAR : hAR h' = hAR h := congrArg (fun x => x.2.2.2.2.1) eR
  have eAL : hAL h' = hAL h := congrArg (fun x => x.2.2.2.2.2.1) eR
  have eAD : hAD h' = hAD h := congrArg (fun x => x.2.2.2.2.2.2.1) eR
  have eK : hK h' = hK h := congrArg (fun x => x.2.2.2.2.2.2.2.1) eR
  have eL : hL h' = hL h := congrArg (fun x => x.2.2.2.2.2.2.2.2.1) eR
  have eN : hN h' = hN h := congrArg (fun x => x.2.2.2.2.2.2.2.2.2.1) eR
  have eC : hC h' = hC h := congrArg (fun x => x.2.2.2.2.2.2.2.2.2.2.1) eR
  have eZ : hZ h' = hZ h := congrArg (fun x => x.2.2.2.2.2.2.2.2.2.2.2) eR
  clear eR
  have mg : ∀ {w c b}, MSGw w c h b → MSGw w c h' b := fun m => MSGw_of (fun f h1 h2 => eI f _ (by omega)) (by rw [eF]) (fun k => by rw [eAR]) (fun f b h1 h2 _ => eI f b (by omega)) (fun b _ => by rw [eK]) (by rw [eN]; exact Nat.le_refl _) m
  obtain ⟨hs, hrow, hm, hl, hle, hc, hnet, hh, hg⟩ := hr
  refine ⟨⟨?_, ?_, fun i hi => ?_, fun i d hi hd => ?_, fun i hi => ?_⟩, ?_, fun i hi => ?_, fun i hi => ⟨?_, fun k1 hk hq => ?_⟩, fun i hi => ?_, fun i1 d1 hi1 hd1 => ?_, ⟨?_, ?_, ?_, ?_, fun q hq hqn => ?_, ?_⟩, ⟨?_, ?_, ?_, fun r b hb => ?_, fun a ha hq => ?_⟩, ?_, ?_⟩
  · rw [eK, eL]; exact hs.1
  · rw [eRR]; exact hs.2.1
  · have q := hs.2.2.1 i hi
    rw [eAR, eK, eL, eRR]
    simp (disch := omega) only [eI]
    exact q
  · rw [eAR, eK]; exact hs.2.2.2.1 i d hi hd
  · rw [eAR, eK]; exact hs.2.2.2.2 i hi
  · unfold gRow
    rw [eAR, eRR, eK, eL, eN]
    refine ⟨hrow.1, hrow.2.1, hrow.2.2.1, hrow.2.2.2.1, fun b hb => ?_⟩
    rw [eI _ _ (by omega)]
    exact hrow.2.2.2.2 b hb
  · have q := hm i hi
    simp (disch := omega) only [eI, eT]
    rw [eF]
    exact q
  · rw [eI _ _ (by omega), eT _ (by omega)]; exact (hl i hi).1
  · rw [eT 12 (by omega)] at hq
    rw [eAR, eT 14 (by omega), eT 15 (by omega), eT 16 (by omega), eT 17 (by omega)]
    exact EN_of (fun f b h1 h2 _ => eI f b (by omega)) (fun b _ => by rw [eK]) (by rw [eN]; exact Nat.le_refl _) ((hl i hi).2 k1 hk hq)
  · have q := hle i hi
    simp (disch := omega) only [eI, eT]
    rw [eF, eAI, eAF]
    exact q
  · by_cases c : i1 = i ∧ d1 = j
    · obtain ⟨rfl, rfl⟩ := c
      exact hc'
    · have q := hc i1 d1 hi1 hd1
      simp (disch := omega) only [eI, eS]
      exact q
  · rw [eI _ _ (by omega), eT _ (by omega)]; exact hnet.1
  · rw [eI _ _ (by omega), eT _ (by omega)]; exact hnet.2.1
  · rw [eI _ _ (by omega), eT _ (by omega)]; exact hnet.2.2.1
  · rw [eAI, eT 6 (by omega)]; exact hnet.2.2.2.1
  · rw [eT 39 (by omega)] at hqn
    unfold MSG
    rw [eAR, eT 37 (by omega)]
    exact mg (hnet.2.2.2.2.1 q hq hqn)
  · rw [eRR]; exact mg hnet.2.2.2.2.2
  · rw [eI _ _ (by omega), eT 47 (by omega)]; exact hh.1
  · rw [eI _ _ (by omega), eT 4 (by omega)]; exact hh.2.1
  · rw [eI _ _ (by omega), eT 47 (by omega), eT 41 (by omega)]; exact hh.2.2.1
  · rw [eT 47 (by omega), eT 41 (by omega)] at hb
    rw [eAR]; exact hh.2.2.2.1 r b hb
  · rw [eT 47 (by omega)] at hq
    have q := hh.2.2.2.2 a ha hq
    simp (disch := omega) only [eI, eT]
    exact q
  · unfold gGlob; rw [eF]; exact hg.1
  · obtain ⟨g1, g2, g3, g4, g5, g6, g7⟩ := hg.2
    refine ⟨fun K => ?_, fun K => ?_, by rw [eC]; exact g3, by rw [eZ]; exact g4, by rw [eL]; exact g5, by rw [eAI]; exact g6, by rw [eN, eC, eK, eL, eAL, eAD]; exact g7⟩
    · replace g1 := g1 K
      unfold STM
      rw [eRR, eK, eL]
      exact g1
    · replace g2 := g2 K
      unfold RMo
      rw [eF, eAI, eAF]
      simp (disch := omega) only [eI]
      exact g2
theorem cho_of (hr : RC S F e X h) (hi : i < 5) (hj : j < 4) : CHO S h i j := rcC hr i j hi hj
theorem ne_sI {h : HP} {f a : Nat} {v : Int32} {f1 a1 : Nat} (hn : ¬ (f1 = f ∧ a1 = a)) : hI (sI h f a v) f1 a1 = hI h f1 a1 := if_neg hn
theorem sI_snd (h : HP) (f a : Nat) (v : Int32) : (sI h f a v).2 = h.2 := rfl
theorem o_div (a b : Nat) (ha : a < 2147483648) (hb : b < 2147483648) : Int32.ofNat a / Int32.ofNat b = Int32.ofNat (a / b) := (Int32.ofNat_div (by omega) (by omega)).symm
theorem w_nextBallot (hr : RC S F e X h) (hi : i < 5) (hj : j < 4) (hb : -1 ≤ (S 27 (4 * i + j)).toInt) (hb2 : (S 27 (4 * i + j)).toInt ≤ 100000) {u : Option Value} (k : Q (.inl (some (.int (nextB i (S 27 (4 * i + j)))))) h) : WP d mX2_nextBallot 0 [some (.ref (158 + 12 * i + j)), some (.int (Int32.ofNat i)), u] [] h Q := by
  have ch := cho_of hr hi hj
  refine bX2_nextBallot_0 ⟨st_K_158 (rcS hr) hi hj, ?_⟩
  rw [ch.1]
  unfold nextB at k
  refine ⟨fun c => ?_, fun c => ?_⟩
  · rw [Int32.le_iff_toInt_le, o_i _ (by omega)] at c
    rw [if_neg (by omega)] at k
    obtain ⟨x, hx, hx2, hxt⟩ := o_of (x := S 27 (4 * i + j)) (by omega) hb2
    rw [hx, nt_of rfl (by omega)] at k
    have e : (8 : Int32) * (((Int32.ofNat x - Int32.ofNat i) / (8 : Int32)) + 1) + Int32.ofNat i = Int32.ofNat (8 * ((x - i) / 8 + 1) + i) := by
      rw [o_sub x i (by omega)]
      have := o_div (x - i) 8 (by omega) (by decide)
      rw [show (8 : Int32) = Int32.ofNat 8 from rfl, this, o_addn, o_mul, o_add]
    rw [hx, e]
    exact k
  · rw [Int32.le_iff_toInt_le, o_i _ (by omega)] at c
    rw [if_pos (by omega)] at k
    have e : (8 : Int32) * (0 : Int32) + Int32.ofNat i = Int32.ofNat i := by
      rw [show (8 : Int32) * (0 : Int32) = 0 from rfl, Int32.zero_add]
    rw [e]
    exact k
/-- a proposal started -/
def propS0 (S : SI) (m k : Nat) (b v : Int32) : SI := u2 (u2 (u2 (u2 (u2 (u2 (u2 S 27 k b) 31 k b) 32 k (if S 28 k = -1 then v else S 29 k)) 34 k (S 28 k)) 33 k (bitI (Int32.ofNat m))) 35 k 0) 36 k 0
theorem w_startProposal (hr : RC S F e X h) (hi : i < 5) (hj : j < 4) {b v : Int32} (k : ∀ h', RC (propS0 S i (4 * i + j) b v) F e X h' → hR h' = hR h → Q (.inl none) h') : WP d mX2_startProposal 0 [some (.ref (158 + 12 * i + j)), some (.int b), some (.int v), some (.int (Int32.ofNat i))] [] h Q := by
  have ch := cho_of hr hi hj
  refine bX2_startProposal_0 ⟨st_K_158 (rcS hr) hi hj, ?_⟩
  have e201 : hI (sI (sI (sI (sI (sI h 200 (158 + 12 * i + j) b) 204 (158 + 12 * i + j) b) 205 (158 + 12 * i + j) v) 206 (158 + 12 * i + j) 0) 207 (158 + 12 * i + j) ((1 : Int32) <<< (Int32.ofNat i &&& 31))) 201 (158 + 12 * i + j) = S 28 (4 * i + j) := ch.2.1
  have e202 : ∀ v2, hI (sI (sI (sI (sI (sI (sI h 200 (158 + 12 * i + j) b) 204 (158 + 12 * i + j) b) 205 (158 + 12 * i + j) v) 206 (158 + 12 * i + j) 0) 207 (158 + 12 * i + j) ((1 : Int32) <<< (Int32.ofNat i &&& 31))) 208 (158 + 12 * i + j) v2) 202 (158 + 12 * i + j) = S 29 (4 * i + j) := fun _ => ch.2.2.1
  rw [e201, e202]
  refine bX2_startProposal_40 ⟨st_K_158 (rcS hr) hi hj, k _ (rc_cho hr hi hj (fun f q hq => ?_) (by simp only [sI_snd]) (fun s q hq => ?_) ?_) (by simp only [hR_sI])⟩
  · rw [ne_sI (by omega), ne_sI (by omega), ne_sI (by omega), ne_sI (by omega), ne_sI (by omega), ne_sI (by omega), ne_sI (by omega)]
  · unfold propS0
    rw [u2_ne (by omega), u2_ne (by omega), u2_ne (by omega), u2_ne (by omega), u2_ne (by omega), u2_ne (by omega), u2_ne (by omega)]
  · unfold CHO propS0
    simp [hI_sI, u2, ch.2.1, ch.2.2.1, ch.2.2.2.1, bitI]
theorem w_prop_30 (hi : i < 5) (hj : j < 4) {n : Nat} (hn : S 0 0 = Int32.ofNat n) (hn5 : n ≤ 5) {q : Nat} (hq : S 39 0 = Int32.ofNat q) (hq60 : q ≤ 60) {o : Int32} (k : ∀ h' (_ : Int32), RC (toAll (fun o => prepW i o j (S 31 (4 * i + j))) FP.fconst0 i n (S, F)).1 (toAll (fun o => prepW i o j (S 31 (4 * i + j))) FP.fconst0 i n (S, F)).2 (e1, 0, e3) X h' → Q (.inl (some (.int (S 31 (4 * i + j))))) h') :
    ∀ (m l : Nat) (h : HP), l + m = n → RC (toAll (fun o => prepW i o j (S 31 (4 * i + j))) FP.fconst0 i l (S, F)).1 (toAll (fun o => prepW i o j (S 31 (4 * i + j))) FP.fconst0 i l (S, F)).2 (e1, 0, e3) X h → WP (d + 2) mX1_letPropose 30 [some (.ref 132), some (.ref (150 + 12 * i)), some (.int (Int32.ofNat j)), some (.int o), some (.ref (158 + 12 * i + j)), some (.int (Int32.ofNat l))] [] h Q := by
  intro m
  induction m with
  | zero =>
    intro l h hl hr
    obtain rfl : l = n := by omega
    have hs := rcS hr
    have ch := cho_of hr hi hj
    refine bX1_letPropose_30 ⟨st_K_132 hs, ?_⟩
    rw [st_R_101_132 hs, rd_n hr, toAll_ne (by decide) (by decide) (by decide), hn, o_le _ _ (by omega) (by omega), ch.2.2.2.2.1, toAll_ne (by decide) (by decide) (by decide)]
    exact ⟨st_K_4 hs, fun _ => ⟨st_K_158 hs hi hj, k h e1 hr⟩, fun c => absurd (Nat.le_refl _) c⟩
  | succ m ih =>
    intro l h hl hr
    have hs := rcS hr
    have ch := cho_of hr hi hj
    obtain ⟨q', hq', hq2⟩ := toAll_cnt (P := (S, F)) (g := fun o => prepW i o j (S 31 (4 * i + j))) (c := FP.fconst0) (m := i) hq hq60 l
    refine bX1_letPropose_30 ⟨st_K_132 hs, ?_⟩
    rw [st_R_101_132 hs, rd_n hr, toAll_ne (by decide) (by decide) (by decide), hn, o_le _ _ (by omega) (by omega), st_I_800_150 hs hi, o_eq _ _ (by omega) (by omega), ch.2.2.2.2.1, toAll_ne (by decide) (by decide) (by decide), o_addn]
    refine ⟨st_K_4 hs, fun c => by omega, fun _ => ⟨st_K_150 hs hi, fun c => ?_, fun c => ⟨st_K_158 hs hi hj, by decide, w_send hr (by rw [hq', o_i _ (by omega)]; omega) (by rw [hq', o_i _ (by omega)]; omega) ?_⟩⟩⟩
    · refine ih (l + 1) h (by omega) ?_
      unfold toAll
      rw [if_pos c]
      exact hr
    · intro h' a hr' hf' ha ear er hm
      rw [KK_ret]
      obtain ⟨m0, m1, m2, m3, m4, m5, m6, m7, m8, m10, m11, m12, m13⟩ := hm
      refine bX1_letPropose_70 ⟨fr_K hr' hf', ?_⟩
      rw [o_addn]
      refine ih (l + 1) _ (by omega) ?_
      have q := rc_fin (w := prepW i l j (S 31 (4 * i + j))) (c := FP.fconst0) (by rw [hq', o_i _ (by omega)]; omega) (by rw [hq', o_i _ (by omega)]; omega) (rc_m911 (v := Int32.ofNat j) hr' hf') ha (MSGw_mk ?_ ?_ ?_ ?_ ?_ ?_ ?_ ?_ ?_ ?_ ?_ ?_ ?_ ?_)
      · unfold toAll
        rw [if_neg c]
        exact q
      all_goals simp [hI_sF, hI_sI, hF_sF, hF_sI, prepW, wu, w4, m0, m1, m2, m3, m4, m5, m6, m7, m8, m10, m11, m12, m13]
theorem w_letPropose (hr : RC S F (e1, 0, e3) X h) (hi : i < 5) (hj : j < 4) {n : Nat} (hn : S 0 0 = Int32.ofNat n) (hn5 : n ≤ 5) {q : Nat} (hq : S 39 0 = Int32.ofNat q) (hq60 : q ≤ 60) (hb : -1 ≤ (S 27 (4 * i + j)).toInt) (hb2 : (S 27 (4 * i + j)).toInt ≤ 100000) {v : Int32} {u1 u2 : Option Value} (k : ∀ h' (_ : Int32), RC (propP (S, F) i n j v).1 (propP (S, F) i n j v).2 (e1, 0, e3) X h' → Q (.inl (some (.int (nextB i (S 27 (4 * i + j)))))) h') : WP (d + 2) mX1_letPropose 0 [some (.ref 132), some (.ref (150 + 12 * i)), some (.int (Int32.ofNat j)), some (.int v), u1, u2] [] h Q := by
  have hs := rcS hr
  refine bX1_letPropose_0 ?_
  rw [st_R_803_150 hs hi, st_K_157 hs hi, o_c _ (by omega), st_AR_157_e hs hi hj, st_I_800_150 hs hi]
  refine ⟨st_K_150 hs hi, ⟨by decide, by decide⟩, inA_o (st_L_157 hs hi) (by omega) (by decide), by omega, st_K_158 hs hi hj, w_nextBallot hr hi hj hb hb2 ?_⟩
  rw [KK_ret]
  refine bX1_letPropose_19 ?_
  rw [st_I_800_150 hs hi]
  refine ⟨st_K_150 hs hi, by omega, st_K_158 hs hi hj, w_startProposal hr hi hj ?_⟩
  intro h1 hr1 er1
  rw [KK_ret]
  have e31 : propS0 S i (4 * i + j) (nextB i (S 27 (4 * i + j))) v 31 (4 * i + j) = nextB i (S 27 (4 * i + j)) := by
    unfold propS0
    rw [u2_ne (by omega), u2_ne (by omega), u2_ne (by omega), u2_ne (by omega), u2_ne (by omega), u2_eq]
  refine bX1_letPropose_27 (w_prop_30 (S := propS0 S i (4 * i + j) (nextB i (S 27 (4 * i + j))) v) hi hj hn hn5 hq hq60 ?_ n 0 h1 (Nat.zero_add _) hr1)
  rw [e31]
  exact k
end CHOS
