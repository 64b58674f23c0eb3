/-! ===== calls of the class: request; an entry is made ===== -/
section QHC
variable {S S' : SI} {F : SF} {e : EX} {X : MX} {h h' : HP} {d : Nat} {Q : Out → HP → Prop} {e1 : Int32} {e3 : RW × UInt32} {n a b : Nat}
/-- what was there stays as it is -/
theorem rc_ext (hr : RC S F e X h) (eI : ∀ f b, b < hN h → hI h' f b = hI h f b) (eF : ∀ f b, b < hN h → hF h' f b = hF h f b) (eRR : ∀ f b, b < hN h → hR h' f b = hR h f b) (eAI : ∀ b, b < hN h → hAI h' b = hAI h b) (eAF : ∀ b, b < hN h → hAF h' b = hAF h b) (eAR : ∀ b, b < hN h → hAR h' b = hAR h b) (eK : ∀ b, b < hN h → hK h' b = hK h b) (eL : ∀ b, b < hN h → hL h' b = hL h b) (eN : hN h ≤ hN h') (eNC : hC h + hN h' ≤ hC h' + hN h) (eAL : ∀ b, b < hN h → hAL h' b = hAL h b) (eAD : ∀ b, b < hN h → hAD h' b = hAD h b) : RC S F e (X.1, X.2.1, hC h', hZ h', X.2.2.2.2) h' := by
  have hnc : 210 ≤ hN h ∧ hN h ≤ hC h + 2 ∧ hK h 1 = 19 := hr.2.2.2.2.2.2.2.2.2.2.2.2.2.2.2.1
  have h210 := hnc.1
  have h253 : X.1 1000 0 = 0 → 253 ≤ hN h := fun K => (hr.2.2.2.2.2.2.2.2.2.2.2.2.2.2.2.2 K).1
  have ms : ∀ a, mset a ∨ a = 9 → a ≤ 129 ∧ 7 ≤ a := fun a ha => by
    rcases ha with ha | rfl
    · exact mset_hi ha
    · omega
  have mg : ∀ {w c b}, b + 1 < hN h → MSGw w c h b → MSGw w c h' b := fun hb m => MSGw_of (fun f h1 h2 => eI f _ (by omega)) (eF _ _ (by omega)) (fun k => by rw [eAR _ hb]) (fun f b h1 h2 h3 => eI f b h3) (fun b h3 => eK b h3) eN m
  obtain ⟨hs, hrow, hm, hl, hle, hc, hnet, hh, hg⟩ := hr
  have mr : ∀ p, p < 60 → hAR h 5 p ≤ 129 ∧ 7 ≤ hAR h 5 p := fun p hp => mset_hi (hrow.1 p hp)
  have mt := mset_hi hrow.2.1
  refine ⟨⟨?_, ?_, fun i hi => ?_, fun i d hi hd => ?_, fun i hi => ?_⟩, ⟨fun p hp => ?_, ?_, fun p q hp hq => ?_, fun p hp => ?_, fun b hb => ?_⟩, fun i hi => ?_, fun i hi => ⟨?_, fun k1 hk hq => ?_⟩, fun i hi => ?_, fun i1 d1 hi1 hd1 => ?_, ⟨?_, ?_, ?_, fun k hk => ?_, fun q hq hqn => ?_, ?_⟩, ⟨?_, ?_, ?_, fun r b hb => ?_, fun a ha hq => ?_⟩, ?_, fun K => ?_, fun K => ?_, rfl, rfl, ?_, ?_, ?_, fun K => ?_⟩
  · simp (disch := omega) only [eK, eL]; exact hs.1
  · simp (disch := omega) only [eRR]; exact hs.2.1
  · have q := hs.2.2.1 i hi
    simp (disch := omega) only [eI, eRR, eAR, eK, eL]
    exact q
  · rw [eAR _ (by omega), eK _ (by omega)]; exact hs.2.2.2.1 i d hi hd
  · rw [eAR _ (by omega), eK _ (by omega)]; exact hs.2.2.2.2 i hi
  · rw [eAR _ (by omega)]; exact hrow.1 p hp
  · rw [eRR _ _ (by omega)]; exact hrow.2.1
  · rw [eAR _ (by omega)]; exact hrow.2.2.1 p q hp hq
  · rw [eAR _ (by omega), eRR _ _ (by omega)]; exact hrow.2.2.2.1 p hp
  · have hb2 := ms b hb
    obtain ⟨r1, r2, r3, r4, r5, r6⟩ := hrow.2.2.2.2 b hb
    rw [eK _ (by omega), eRR _ _ (by omega), eK _ (by omega), eL _ (by omega), eI _ _ (by omega), eAR _ (by omega)]
    refine ⟨r1, r2, r3, r4, r5, fun k hk => ?_⟩
    rcases r6 k hk with q | q
    · exact Or.inl q
    · exact Or.inr ⟨q.1, Nat.lt_of_lt_of_le q.2.1 eN, by rw [eK _ q.2.1]; exact q.2.2⟩
  · have q := hm i hi
    simp (disch := omega) only [eI, eF]
    exact q
  · rw [eI _ _ (by omega)]; exact (hl i hi).1
  · rw [eAR _ (by omega)]
    exact EN_of (fun f b h1 h2 h3 => eI f b h3) eK eN ((hl i hi).2 k1 hk hq)
  · have q := hle i hi
    simp (disch := omega) only [eI, eF, eAI, eAF]
    exact q
  · have q := hc i1 d1 hi1 hd1
    simp (disch := omega) only [eI]
    exact q
  · rw [eI _ _ (by omega)]; exact hnet.1
  · rw [eI _ _ (by omega)]; exact hnet.2.1
  · rw [eI _ _ (by omega)]; exact hnet.2.2.1
  · rw [eAI _ (by omega)]; exact hnet.2.2.2.1 k hk
  · rw [eAR _ (by omega)]
    have := mr q hq
    exact mg (by omega) (hnet.2.2.2.2.1 q hq hqn)
  · rw [eRR _ _ (by omega)]; exact mg (by omega) hnet.2.2.2.2.2
  · rw [eI _ _ (by omega)]; exact hh.1
  · rw [eI _ _ (by omega)]; exact hh.2.1
  · rw [eI _ _ (by omega)]; exact hh.2.2.1
  · rw [eAR _ (by omega)]; exact hh.2.2.2.1 r b hb
  · have q := hh.2.2.2.2 a ha hq
    simp (disch := omega) only [eI]
    exact q
  · unfold gGlob
    rw [eF _ _ (by omega), eF _ _ (by omega), eF _ _ (by omega)]; exact hg.1
  · have K3 := h253 K
    have g1 := hg.2.1 K
    unfold STM at g1 ⊢
    simp (disch := omega) only [eRR, eK, eL]
    exact g1
  · have K3 := h253 K
    have g2 := hg.2.2.1 K
    unfold RMo at g2 ⊢
    simp (disch := omega) only [eI, eF, eAI, eAF]
    exact g2
  · rw [eL _ (by omega)]; exact hg.2.2.2.2.2.1
  · rw [eAI _ (by omega)]; exact hg.2.2.2.2.2.2.1
  · have e3 := hnc.2.1
    exact ⟨by omega, show hN h' ≤ hC h' + 2 by omega, (eK 1 (by omega)).trans hnc.2.2⟩
  · have g3 := hg.2.2.2.2.2.2.2.2 K
    have K3 := h253 K
    refine ⟨Nat.le_trans K3 eN, fun K2 => ?_⟩
    obtain ⟨g4, g5, g6, g7, g8, g9, g10⟩ := g3.2 K2
    exact ⟨(eK _ (by omega)).trans g4, (eL _ (by omega)).trans g5, (eK _ (by omega)).trans g6, (eL _ (by omega)).trans g7, Nat.le_trans g8 eN, by rw [eAL _ (by omega)]; exact g9, by rw [eAD _ (by omega)]; exact g10⟩
/-- the bundle when one entry has been made -/
def alX (X : MX) : MX := (X.1, X.2.1, X.2.2.1 + 1, X.2.2.2.1 + 4, X.2.2.2.2)
theorem nw_I {k l z f b : Nat} (hb : b < hN h) : hI (nw h k l z) f b = hI h f b := if_neg (by omega)
theorem nw_F {k l z f b : Nat} (hb : b < hN h) : hF (nw h k l z) f b = hF h f b := if_neg (by omega)
theorem nw_R {k l z f b : Nat} (hb : b < hN h) : hR (nw h k l z) f b = hR h f b := if_neg (by omega)
theorem nw_AI {k l z b : Nat} (hb : b < hN h) : hAI (nw h k l z) b = hAI h b := by
  funext i
  exact if_neg (by omega)
theorem nw_AF {k l z b : Nat} (hb : b < hN h) : hAF (nw h k l z) b = hAF h b := by
  funext i
  exact if_neg (by omega)
theorem nw_AL {k l z b : Nat} (hb : b < hN h) : hAL (nw h k l z) b = hAL h b := by
  funext i
  exact if_neg (by omega)
theorem nw_AD {k l z b : Nat} (hb : b < hN h) : hAD (nw h k l z) b = hAD h b := by
  funext i
  exact if_neg (by omega)
theorem nw_AR {k l z b : Nat} (hb : b < hN h) : hAR (nw h k l z) b = hAR h b := by
  funext i
  exact if_neg (by omega)
theorem nw_K {k l z b : Nat} (hb : b < hN h) : hK (nw h k l z) b = hK h b := if_neg (by omega)
theorem nw_L {k l z b : Nat} (hb : b < hN h) : hL (nw h k l z) b = hL h b := if_neg (by omega)
theorem rc_newE (hr : RC S F e X h) (K : X.1 1000 0 = 0) {t c s v : Int32} : RC S F e (alX X) (sI (sI (sI (sI (nw h 3 0 4) 300 (hN h) t) 301 (hN h) c) 302 (hN h) s) 303 (hN h) v) ∧ EN (sI (sI (sI (sI (nw h 3 0 4) 300 (hN h) t) 301 (hN h) c) 302 (hN h) s) 303 (hN h) v) (hN h) t c s v := by
  have h255 : 210 ≤ hN h := hr.2.2.2.2.2.2.2.2.2.2.2.2.2.2.2.1.1
  have hC' : hC (sI (sI (sI (sI (nw h 3 0 4) 300 (hN h) t) 301 (hN h) c) 302 (hN h) s) 303 (hN h) v) = X.2.2.1 + 1 := by
    rw [hC_sI, hC_sI, hC_sI, hC_sI]
    show hC h + 1 = _
    rw [hr.2.2.2.2.2.2.2.2.2.2.2.1]
  have hZ' : hZ (sI (sI (sI (sI (nw h 3 0 4) 300 (hN h) t) 301 (hN h) c) 302 (hN h) s) 303 (hN h) v) = X.2.2.2.1 + 4 := by
    rw [hZ_sI, hZ_sI, hZ_sI, hZ_sI]
    show hZ h + 4 = _
    rw [hr.2.2.2.2.2.2.2.2.2.2.2.2.1]
  constructor
  · have q := rc_ext (h' := sI (sI (sI (sI (nw h 3 0 4) 300 (hN h) t) 301 (hN h) c) 302 (hN h) s) 303 (hN h) v) hr (fun f b hb => by rw [ne_sI (by omega), ne_sI (by omega), ne_sI (by omega), ne_sI (by omega), nw_I hb]) (fun f b hb => by rw [hF_sI, hF_sI, hF_sI, hF_sI, nw_F hb]) (fun f b hb => by rw [hR_sI, hR_sI, hR_sI, hR_sI, nw_R hb]) (fun b hb => by rw [hAI_sI, hAI_sI, hAI_sI, hAI_sI, nw_AI hb]) (fun b hb => by rw [hAF_sI, hAF_sI, hAF_sI, hAF_sI, nw_AF hb]) (fun b hb => by rw [hAR_sI, hAR_sI, hAR_sI, hAR_sI, nw_AR hb]) (fun b hb => by rw [hK_sI, hK_sI, hK_sI, hK_sI, nw_K hb]) (fun b hb => by rw [hL_sI, hL_sI, hL_sI, hL_sI, nw_L hb]) (by rw [hN_sI, hN_sI, hN_sI, hN_sI]; show hN h ≤ hN h + 1; omega) (by rw [hN_sI, hN_sI, hN_sI, hN_sI, hC_sI, hC_sI, hC_sI, hC_sI]; show hC h + (hN h + 1) ≤ hC h + 1 + hN h; omega) (fun b hb => by rw [hAL_sI, hAL_sI, hAL_sI, hAL_sI, nw_AL hb]) (fun b hb => by rw [hAD_sI, hAD_sI, hAD_sI, hAD_sI, nw_AD hb])
    rw [hC', hZ'] at q
    exact q
  · refine ⟨by omega, ?_, ?_, ?_, ?_, ?_, ?_⟩
    · rw [hN_sI, hN_sI, hN_sI, hN_sI]; show hN h < hN h + 1; omega
    · rw [hK_sI, hK_sI, hK_sI, hK_sI]; show (if hN h = hN h then 3 else hK h (hN h)) = 3; rw [if_pos rfl]
    · rw [ne_sI (by omega), ne_sI (by omega), ne_sI (by omega), hI_sI, if_pos ⟨rfl, rfl⟩]
    · rw [ne_sI (by omega), ne_sI (by omega), hI_sI, if_pos ⟨rfl, rfl⟩]
    · rw [ne_sI (by omega), hI_sI, if_pos ⟨rfl, rfl⟩]
    · rw [hI_sI, if_pos ⟨rfl, rfl⟩]
/-- the act of that client and serial is there with another value, or an argument is out of its range -/
def reqFit (S : SI) (c s v : Int32) (na : Nat) : Prop := (1 ≤ s.toInt ∧ s.toInt ≤ 99) ∧ (0 ≤ v.toInt ∧ v.toInt ≤ 999) ∧ ∀ a, actOf S c s 0 na = some a → S 44 a = v
def reqCan (S : SI) (m : Nat) (c s : Int32) (na : Nat) : Prop := ¬ S 5 m = 0 ∧ S 11 m = 2 ∧ (S 12 m).toInt < 30 ∧ ((actOf S c s 0 na).isSome = true ∨ na < 14)
theorem actOf_lt {c s : Int32} : ∀ (m j a : Nat), actOf S c s j m = some a → a < j + m ∧ S 41 a = 1 ∧ S 42 a = c ∧ S 43 a = s := by
  intro m
  induction m with
  | zero => intro j a q; cases q
  | succ m ih =>
    intro j a q
    unfold actOf at q
    split at q
    · rename_i c1
      cases q
      exact ⟨by omega, c1⟩
    · have := ih (j + 1) a q
      exact ⟨by omega, this.2⟩
theorem w_req_191 (hr : RC S F e X h) {m l : Nat} (hm5 : m < 5) (hl : S 12 m = Int32.ofNat l) (h30 : l ≤ 30) {x c s v : Int32} {w : Nat} (k : Q (.inl (some (.int (Int32.ofNat (numG S m c s 0 l))))) h) : WP (d + 1) mX11_request 191 [some (.ref 2), some (.int x), some (.int c), some (.int s), some (.int v), some (.ref (150 + 12 * m)), some (.ref w)] [] h Q := by
  have hs := rcS hr
  refine bX11_request_191 ⟨st_K_150 hs hm5, ?_⟩
  rw [st_R_801_150 hs hm5]
  refine ⟨by omega, st_K_151 hs hm5, w_numberOf hs (rcL hr) hm5 (by rw [hl, o_i _ (by omega)]; omega) (by rw [hl, o_i _ (by omega)]; omega) ?_⟩
  rw [KK_ret]
  refine bX11_request_201 ?_
  have : (S 12 m).toInt.toNat = l := by rw [hl, o_i _ (by omega)]; rfl
  rw [this]
  exact k
/-- behind the act: the entry, if it is due -/
theorem w_req_154 (hr : RC S F e X h) (K : X.1 1000 0 = 0) {m l : Nat} (hm5 : m < 5) (hl : S 12 m = Int32.ofNat l) (h30 : l < 30) {x c s v : Int32} {w : Nat} (k : ∀ h' X', (X' = X ∨ X' = alX X) → RC (if outd S m c s (nt (S 12 m)) = true then S else putS S m (S 9 m) c s v) F e X' h' → Q (.inl (some (.int (Int32.ofNat (numG (if outd S m c s (nt (S 12 m)) = true then S else putS S m (S 9 m) c s v) m c s 0 (nt ((if outd S m c s (nt (S 12 m)) = true then S else putS S m (S 9 m) c s v) 12 m))))))) h') : WP (d + 3) mX11_request 154 [some (.ref 2), some (.int x), some (.int c), some (.int s), some (.int v), some (.ref (150 + 12 * m)), some (.ref w)] [] h Q := by
  have hs := rcS hr
  have hnl : nt (S 12 m) = l := nt_of hl (by omega)
  rw [hnl] at k
  refine bX11_request_154 ⟨st_K_150 hs hm5, ?_⟩
  rw [st_R_801_150 hs hm5]
  refine ⟨by omega, st_K_151 hs hm5, w_hasSerial hs (rcL hr) hm5 (by rw [hl, o_i _ (by omega)]; omega) (by rw [hl, o_i _ (by omega)]; omega) ?_⟩
  rw [KK_ret]
  have e12 : (S 12 m).toInt.toNat = l := by rw [hl, o_i _ (by omega)]; rfl
  rw [e12]
  refine bX11_request_164 ?_
  rw [b2i_z]
  have h255 : 210 ≤ hN h := hr.2.2.2.2.2.2.2.2.2.2.2.2.2.2.2.1.1
  refine ⟨fun c1 => ?_, fun c1 => ⟨st_K_150 hs hm5, ?_, by omega, ?_⟩⟩
  · have c2 : outd S m c s l = true := by simpa using c1
    rw [if_pos c2, hnl] at k
    exact w_req_191 hr hm5 hl (by omega) (k h X (Or.inl rfl) hr)
  · rw [nw_K (by omega)]; exact st_K_150 hs hm5
  · have c2 : ¬ outd S m c s l = true := by rw [Classical.not_not.mp c1]; decide
    rw [if_neg c2] at k
    rw [nw_I (by omega), rd_term hr hm5, st_R_801_150 hs hm5]
    obtain ⟨r1, en⟩ := rc_newE hr K (t := S 9 m) (c := c) (s := s) (v := v)
    have K3 : hK (nw h 3 0 4) (hN h) = 3 := if_pos rfl
    refine bX3_init_0 ⟨by omega, K3, ?_⟩
    rw [KK_ret]
    refine bX11_request_188 ⟨by omega, st_K_151 (rcS r1) hm5, w_put r1 hm5 en hl h30 ?_⟩
    intro h2 hr2 er2
    rw [KK_ret]
    have e12' : putS S m (S 9 m) c s v 12 m = Int32.ofNat (l + 1) := by rw [putS_len, hl, o_addn]
    rw [e12', nt_of rfl (by omega)] at k
    exact w_req_191 hr2 hm5 e12' (by omega) (k h2 (alX X) (Or.inr rfl) hr2)
theorem c_request {na : Nat} (hr : RC S F e X h) (K : X.1 1000 0 = 0) (hn : S 0 0 = Int32.ofNat n) (hn5 : n ≤ 5) (ha : S 47 0 = Int32.ofNat na) (ha14 : na ≤ 14) (hl : ∀ m, m < n → ∃ l, S 12 m = Int32.ofNat l ∧ l ≤ 30) (hz : ∀ a, a < na → S 41 a = 0 ∨ S 41 a = 1) {x c s v : Int32} {u1 u2' : Option Value} (k3 : ¬ ((0 ≤ x.toInt ∧ x.toInt < n) ∧ (0 ≤ c.toInt ∧ c.toInt < 4)) → ∀ h', RC S F e (thX X) h' → Q (.inr 3) h') (k1 : ((0 ≤ x.toInt ∧ x.toInt < n) ∧ (0 ≤ c.toInt ∧ c.toInt < 4)) → ¬ reqFit S c s v na → ∀ h', RC S F e (thX X) h' → Q (.inr 1) h') (k2 : ∀ m, x = Int32.ofNat m → m < n → (0 ≤ c.toInt ∧ c.toInt < 4) → reqFit S c s v na → ¬ reqCan S m c s na → ∀ h', RC S F e (thX X) h' → Q (.inr 2) h') (k : ∀ m, x = Int32.ofNat m → m < n → (0 ≤ c.toInt ∧ c.toInt < 4) → reqFit S c s v na → reqCan S m c s na → ∀ h' X', (X' = X ∨ X' = alX X) → RC (requestS (stepS S) m c s v) F e X' h' → Q (.inl (some (.int (Int32.ofNat (numG (requestS (stepS S) m c s v) m c s 0 (nt (requestS (stepS S) m c s v 12 m))))))) h') : WP (d + 4) mX11_request 0 [some (.ref 2), some (.int x), some (.int c), some (.int s), some (.int v), u1, u2'] [] h Q := by
  have hs := rcS hr
  refine bX11_request_0 ⟨by decide, st_K_2 hs, w_needMachine hr hn hn5 (fun c => KK_exc rfl rfl rfl (k3 (fun w => c w.1) _ (rc_thr hr))) ?_⟩
  intro m hm hmn
  have hm5 : m < 5 := by omega
  have hx : 0 ≤ x.toInt ∧ x.toInt < n := by rw [hm, o_i _ (by omega)]; omega
  obtain ⟨l, hl1, hl2⟩ := hl m hmn
  rw [KK_ret]
  refine bX11_request_5 ?_
  rw [Int32.lt_iff_toInt_lt, i_zero, Int32.lt_iff_toInt_lt, show (4 : Int32).toInt = 4 from rfl]
  refine ⟨fun c1 => k3 (fun w => by omega) _ (rc_thr hr), fun c1 => ⟨fun c2 => ?_, fun c2 => k3 (fun w => by omega) _ (rc_thr hr)⟩⟩
  have hcc : 0 ≤ c.toInt ∧ c.toInt < 4 := ⟨by omega, c2⟩
  refine w_needRange (fun c3 => KK_exc rfl rfl rfl (k1 ⟨hx, hcc⟩ (fun w => c3 w.1) _ (rc_thr hr))) ?_
  intro c3 c4
  rw [KK_ret]
  refine bX11_request_33 (w_needRange (fun c5 => KK_exc rfl rfl rfl (k1 ⟨hx, hcc⟩ (fun w => c5 w.2.1) _ (rc_thr hr))) ?_)
  intro c5 c6
  rw [KK_ret]
  refine bX11_request_42 ?_
  rw [st_R_1104_2 hs]
  refine ⟨st_K_2 hs, by decide, st_K_133 hs, bX4_findWrite_0 (w_findWrite hr ha ha14 hz na 0 (Nat.zero_add _) ?_)⟩
  rw [KK_ret]
  -- the rest, whatever the act
  have rest : ∀ w : Nat, w = fwR (actOf S c s 0 na) → reqFit S c s v na →
      ((hI h 804 (150 + 12 * m) = 0 → Q (.inr 2) (thr h)) ∧ (¬ hI h 804 (150 + 12 * m) = 0 → (¬ hI h 807 (150 + 12 * m) = 2 → Q (.inr 2) (thr h)) ∧ (¬ ¬ hI h 807 (150 + 12 * m) = 2 → 1 < hR h 801 (150 + 12 * m) ∧ hK h (hR h 801 (150 + 12 * m)) = 7 ∧ WP (d + 3) mX7_isFull 0 [some (.ref (hR h 801 (150 + 12 * m)))] [] h (KK (d + 3) mX11_request mX7_isFull 100 [some (.ref 2), some (.int x), some (.int c), some (.int s), some (.int v), some (.ref (150 + 12 * m)), some (.ref w)] [] Q)))) := by
    intro w hw hfit
    rw [rd_up hr hm5, rd_role hr hm5, st_R_801_150 hs hm5]
    refine ⟨fun c7 => k2 m hm hmn hcc hfit (fun q => q.1 c7) _ (rc_thr hr), fun c7 => ⟨fun c8 => k2 m hm hmn hcc hfit (fun q => c8 q.2.1) _ (rc_thr hr), fun c8 => ⟨by omega, st_K_151 hs hm5, w_isFull hs (rcL hr) hm5 ?_⟩⟩⟩
    rw [KK_ret]
    refine bX11_request_103 ?_
    rw [b2i_z, decide_eq_false_iff_not, st_R_1104_2 hs]
    refine ⟨fun c9 => k2 m hm hmn hcc hfit (fun q => c9 (by have := q.2.2.1; omega)) _ (rc_thr hr), fun c9 => ?_⟩
    have c9' : (S 12 m).toInt < 30 := by have := Classical.not_not.mp c9; omega
    have hl30 : l < 30 := by rw [hl1, o_i _ (by omega)] at c9'; omega
    have go138 : reqCan S m c s na → WP (d + 3) mX4_goOn 0 [some (.ref 133)] [] h (KK (d + 3) mX11_request mX4_goOn 135 [some (.ref 2), some (.int x), some (.int c), some (.int s), some (.int v), some (.ref (150 + 12 * m)), some (.ref w)] [] Q) := by
      intro hcan
      have kk := k m hm hmn hcc hfit hcan
      refine w_goOn hr ?_
      intro h1 hr1 er1 ear1
      have hs1 := rcS hr1
      rw [KK_ret]
      refine bX11_request_138 ?_
      rw [st_R_1104_2 hs1]
      have eac : ∀ j q, actOf (stepS S) c s j q = actOf S c s j q := by
        intro j q
        induction q generalizing j with
        | zero => rfl
        | succ q ih =>
          unfold actOf
          rw [ih]
          rfl
      have ena : nt (stepS S 47 0) = na := nt_of (x := S 47 0) ha (by omega)
      unfold requestS at kk
      dsimp only at kk
      rw [ena, eac] at kk
      refine ⟨fun q => ?_, fun q => ⟨st_K_2 hs1, by decide, st_K_133 hs1, ?_⟩⟩
      · have hsome : (actOf S c s 0 na).isSome = true := by
          rw [hw] at q
          cases hq : actOf S c s 0 na with
          | none => rw [hq] at q; exact absurd rfl q
          | some a => rfl
        rw [if_pos hsome] at kk
        exact w_req_154 (S := stepS S) hr1 K hm5 hl1 hl30 kk
      · have hnone : ¬ (actOf S c s 0 na).isSome = true := by
          have q2 := Classical.not_not.mp q
          rw [hw] at q2
          cases hq : actOf S c s 0 na with
          | none => decide
          | some a =>
            rw [hq] at q2
            have : 136 + a = 0 := q2
            omega
        rw [if_neg hnone] at kk
        have hna : na < 14 := hcan.2.2.2.resolve_left hnone
        refine w_addWrite hr1 (n := na) ha hna ?_
        intro h2 hr2 er2
        rw [KK_ret]
        exact w_req_154 hr2 K hm5 (by rw [actS_ne (S := stepS S) ha (by omega) (by decide) (Or.inr (by decide))]; exact hl1) hl30 kk
    refine ⟨fun c10 => ⟨st_K_2 hs, by decide, st_K_133 hs, go138 ⟨c7, Classical.not_not.mp c8, c9', Or.inl ?_⟩⟩, fun c10 => ⟨st_K_2 hs, by decide, st_K_133 hs, w_hFull hr ha ha14 ?_⟩⟩
    · rw [hw] at c10
      cases hq : actOf S c s 0 na with
      | none => rw [hq] at c10; exact absurd rfl c10
      | some a => rfl
    · rw [KK_ret]
      refine bX11_request_118 ?_
      rw [b2i_z, decide_eq_false_iff_not, st_R_1104_2 hs]
      refine ⟨fun c11 => ⟨st_K_2 hs, by decide, st_K_133 hs, go138 ⟨c7, Classical.not_not.mp c8, c9', Or.inr (by omega)⟩⟩, fun c11 => k2 m hm hmn hcc hfit (fun q => ?_) _ (rc_thr hr)⟩
      rcases q.2.2.2 with q3 | q3
      · have c12 := Classical.not_not.mp c10
        rw [hw] at c12
        cases hq : actOf S c s 0 na with
        | none => rw [hq] at q3; exact absurd q3 (by decide)
        | some a =>
          rw [hq] at c12
          have : 136 + a = 0 := c12
          omega
      · exact c11 (by omega)
  refine bX11_request_51 ⟨fun c7 => ⟨st_K_150 hs hm5, ?_⟩, fun c7 => ?_⟩
  · have hnone : actOf S c s 0 na = none := by
      cases hq : actOf S c s 0 na with
      | none => rfl
      | some a =>
        rw [hq] at c7
        have : 136 + a = 0 := c7
        omega
    exact rest _ rfl ⟨⟨c3, c4⟩, ⟨c5, c6⟩, fun a q => by rw [hnone] at q; cases q⟩
  · cases hq : actOf S c s 0 na with
    | none => rw [hq] at c7; exact absurd rfl c7
    | some a =>
      have ra := actOf_lt na 0 a hq
      have rd := rd_act hr ha ha14 (a := a) (by omega)
      have rest' := rest
      rw [hq] at rest'
      show hK h (136 + a) = 0 ∧ (hI h 3 (136 + a) = v → hK h (150 + 12 * m) = 8 ∧ _) ∧ (¬ hI h 3 (136 + a) = v → _)
      rw [rd.2.2.1]
      refine ⟨st_K_136 hs (by omega), fun c8 => ⟨st_K_150 hs hm5, ?_⟩, fun c8 => k1 ⟨hx, hcc⟩ (fun w => c8 (w.2.2 a hq)) _ (rc_thr hr)⟩
      exact rest' _ rfl ⟨⟨c3, c4⟩, ⟨c5, c6⟩, fun b q => by rw [hq] at q; cases q; exact c8⟩
end QHC
