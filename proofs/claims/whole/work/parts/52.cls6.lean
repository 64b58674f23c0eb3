/-! ===== what machines of the class do with messages of terms ===== -/
section HEARL
variable {S : SI} {F : SF} {e : EX} {X : MX} {h : HP} {d : Nat} {Q : Out → HP → Prop} {i : Nat}
theorem MSGw_AR {h : HP} {a b k v : Nat} {w : RW} {c : UInt32} (hb : a + 1 ≠ b) (m : MSGw w c h a) : MSGw w c (sAR h b k v) a :=
  MSGw_of (h := h) (fun f1 _ _ => rfl) rfl (fun k1 => by rw [hAR_sAR, if_neg (fun q => hb q.1)]) (fun f1 b1 h1 h2 _ => rfl) (fun _ _ => rfl) (Nat.le_refl _) m
theorem mset_hi {a : Nat} (hm : mset a) : a ≤ 129 ∧ 7 ≤ a := by
  rcases hm with rfl | ⟨o, ho, rfl⟩ <;> omega
theorem rc_put (hr : RC S F e X h) (hi : i < 5) {a n : Nat} {t c s v : Int32} (en : EN h a t c s v) (hn : S 12 i = Int32.ofNat n) (hn30 : n < 30) : RC (putS S i t c s v) F e X (sI (sAR h (152 + 12 * i) n a) 701 (151 + 12 * i) (Int32.ofNat (n + 1))) := by
  have hnn : nt (S 12 i) = n := nt_of hn (by omega)
  have key : ∀ b j, b ≠ 152 + 12 * i → hAR (sAR h (152 + 12 * i) n a) b j = hAR h b j := fun b j hb => by rw [hAR_sAR, if_neg (fun q => hb q.1)]
  obtain ⟨hs, hrow, hm, hl, hle, hc, hnet, hh, hg⟩ := hr
  have m1 := mset_hi hrow.2.1
  refine ⟨⟨hs.1, hs.2.1, fun i hi => ⟨(key 3 i (by omega)).trans (hs.2.2.1 i hi).1, (hs.2.2.1 i hi).2⟩, fun i d hi hd => ⟨(key _ d (by omega)).trans (hs.2.2.2.1 i d hi hd).1, (hs.2.2.2.1 i d hi hd).2⟩, fun i hi => ⟨(key _ i (by omega)).trans (hs.2.2.2.2 i hi).1, (hs.2.2.2.2 i hi).2⟩⟩, ?_, hm, fun i1 hi1 => ⟨?_, fun k1 hk hq => ?_⟩, hle, hc, ⟨hnet.1, hnet.2.1, hnet.2.2.1, hnet.2.2.2.1, fun p hp hq => ?_, ?_⟩, ⟨hh.1, hh.2.1, hh.2.2.1, fun r b hb => (key 135 r (by omega)).trans (hh.2.2.2.1 r b hb), hh.2.2.2.2⟩, hg⟩
  · have e5 : ∀ p, hAR (sAR h (152 + 12 * i) n a) 5 p = hAR h 5 p := fun p => key 5 p (by omega)
    refine ⟨fun p hp => ?_, hrow.2.1, fun p q hp hq w => ?_, fun p hp => ?_, fun b hb => ⟨(hrow.2.2.2.2 b hb).1, (hrow.2.2.2.2 b hb).2.1, (hrow.2.2.2.2 b hb).2.2.1, (hrow.2.2.2.2 b hb).2.2.2.1, (hrow.2.2.2.2 b hb).2.2.2.2.1, fun j hj => ?_⟩⟩
    · show mset (hAR (sAR h (152 + 12 * i) n a) 5 p); rw [e5]; exact hrow.1 p hp
    · have w' : hAR (sAR h (152 + 12 * i) n a) 5 p = hAR (sAR h (152 + 12 * i) n a) 5 q := w
      rw [e5, e5] at w'
      exact hrow.2.2.1 p q hp hq w'
    · show hAR (sAR h (152 + 12 * i) n a) 5 p ≠ _; rw [e5]; exact hrow.2.2.2.1 p hp
    · have hb9 : b ≤ 129 := by
        rcases hb with hb | rfl
        · exact (mset_hi hb).1
        · omega
      show hAR (sAR h (152 + 12 * i) n a) (b + 1) j = 0 ∨ (1 < hAR (sAR h (152 + 12 * i) n a) (b + 1) j ∧ hAR (sAR h (152 + 12 * i) n a) (b + 1) j < hN h ∧ hK h (hAR (sAR h (152 + 12 * i) n a) (b + 1) j) = 3)
      rw [key _ _ (by omega)]
      exact (hrow.2.2.2.2 b hb).2.2.2.2.2 j hj
  · show (if 701 = 701 ∧ 151 + 12 * i1 = 151 + 12 * i then Int32.ofNat (n + 1) else hI h 701 (151 + 12 * i1)) = (if 12 = 12 ∧ i1 = i then S 12 i + 1 else S 12 i1)
    by_cases c : i1 = i
    · subst c; rw [if_pos ⟨rfl, rfl⟩, if_pos ⟨rfl, rfl⟩, hn, o_addn]
    · rw [if_neg (by omega), if_neg (fun w => c w.2)]; exact (hl i1 hi1).1
  · have hq' : (k1 : Int) < (if 12 = 12 ∧ i1 = i then S 12 i + 1 else S 12 i1).toInt := hq
    have e14 : ∀ x, x ≠ 30 * i + n → putS S i t c s v 14 x = S 14 x ∧ putS S i t c s v 15 x = S 15 x ∧ putS S i t c s v 16 x = S 16 x ∧ putS S i t c s v 17 x = S 17 x := by
      intro x hx
      unfold putS
      rw [hnn]
      refine ⟨?_, ?_, ?_, ?_⟩
      · rw [u2_ne (by omega), u2_ne (by omega), u2_ne (by omega), u2_ne (by omega), u2_ne (by omega)]
      · rw [u2_ne (by omega), u2_ne (by omega), u2_ne (by omega), u2_ne (by omega), u2_ne (by omega)]
      · rw [u2_ne (by omega), u2_ne (by omega), u2_ne (by omega), u2_ne (by omega), u2_ne (by omega)]
      · rw [u2_ne (by omega), u2_ne (by omega), u2_ne (by omega), u2_ne (by omega), u2_ne (by omega)]
    have e15 : putS S i t c s v 14 (30 * i + n) = t ∧ putS S i t c s v 15 (30 * i + n) = c ∧ putS S i t c s v 16 (30 * i + n) = s ∧ putS S i t c s v 17 (30 * i + n) = v := by
      unfold putS
      rw [hnn]
      refine ⟨?_, ?_, ?_, ?_⟩
      · rw [u2_ne (by omega), u2_ne (by omega), u2_ne (by omega), u2_ne (by omega), u2_eq]
      · rw [u2_ne (by omega), u2_ne (by omega), u2_ne (by omega), u2_eq]
      · rw [u2_ne (by omega), u2_ne (by omega), u2_eq]
      · rw [u2_ne (by omega), u2_eq]
    by_cases c : i1 = i
    · subst c
      rw [if_pos ⟨rfl, rfl⟩, hn, o_addn, o_i _ (by omega)] at hq'
      by_cases c2 : k1 = n
      · subst c2
        rw [e15.1, e15.2.1, e15.2.2.1, e15.2.2.2]
        show EN h (hAR (sAR h (152 + 12 * i1) k1 a) (152 + 12 * i1) k1) t c s v
        rw [hAR_sAR, if_pos ⟨rfl, rfl⟩]
        exact en
      · have q := e14 (30 * i1 + k1) (by omega)
        rw [q.1, q.2.1, q.2.2.1, q.2.2.2]
        show EN h (hAR (sAR h (152 + 12 * i1) n a) (152 + 12 * i1) k1) _ _ _ _
        rw [hAR_sAR, if_neg (fun w => c2 w.2)]
        exact (hl i1 hi1).2 k1 hk (by rw [hn, o_i _ (by omega)]; omega)
    · rw [if_neg (fun w => c w.2)] at hq'
      have q := e14 (30 * i1 + k1) (by omega)
      rw [q.1, q.2.1, q.2.2.1, q.2.2.2]
      show EN h (hAR (sAR h (152 + 12 * i) n a) (152 + 12 * i1) k1) _ _ _ _
      rw [key _ _ (by omega)]
      exact (hl i1 hi1).2 k1 hk hq'
  · show MSGw _ _ (sI (sAR h (152 + 12 * i) n a) 701 (151 + 12 * i) (Int32.ofNat (n + 1))) (hAR (sAR h (152 + 12 * i) n a) 5 p)
    have m2 := mset_hi (hrow.1 p hp)
    rw [key _ _ (by omega)]
    exact MSGw_sI (by omega) (by decide) (MSGw_AR (by omega) (hnet.2.2.2.2.1 p hp hq))
  · exact MSGw_sI (h := sAR h (152 + 12 * i) n a) (by show hR h 1005 4 ≠ 151 + 12 * i; omega) (by decide) (MSGw_AR (by show hR h 1005 4 + 1 ≠ 152 + 12 * i; omega) hnet.2.2.2.2.2)
theorem rc_cutl (hr : RC S F e X h) {v : Int32} (hv : v.toInt ≤ (S 12 i).toInt) : RC (u2 S 12 i v) F e X (sI h 701 (151 + 12 * i) v) := by
  obtain ⟨hs, hrow, hm, hl, hle, hc, hn, hh, hg⟩ := hr
  refine ⟨STR_sI (by decide) hs, hrow, hm, fun i1 hi1 => ⟨?_, fun k1 hk hq => ?_⟩, hle, hc, hn, hh, hg⟩
  · show (if 701 = 701 ∧ 151 + 12 * i1 = 151 + 12 * i then v else hI h 701 (151 + 12 * i1)) = (if 12 = 12 ∧ i1 = i then v else S 12 i1)
    by_cases c : i1 = i
    · subst c; rw [if_pos ⟨rfl, rfl⟩, if_pos ⟨rfl, rfl⟩]
    · rw [if_neg (by omega), if_neg (fun w => c w.2)]; exact (hl i1 hi1).1
  · have hq' : (k1 : Int) < (if 12 = 12 ∧ i1 = i then v else S 12 i1).toInt := hq
    refine (hl i1 hi1).2 k1 hk ?_
    by_cases c : i1 = i
    · subst c; rw [if_pos ⟨rfl, rfl⟩] at hq'; omega
    · rw [if_neg (fun w => c w.2)] at hq'; exact hq'
theorem w_put (hr : RC S F e X h) (hi : i < 5) {a n : Nat} {t c s v : Int32} (en : EN h a t c s v) (hn : S 12 i = Int32.ofNat n) (hn30 : n < 30) (k : ∀ h', RC (putS S i t c s v) F e X h' → hR h' = hR h → Q (.inl none) h') : WP d mX7_put 0 [some (.ref (151 + 12 * i)), some (.ref a)] [] h Q := by
  have hs := rcS hr
  refine bX7_put_0 ⟨st_K_151 hs hi, ?_⟩
  rw [st_R_700_151 hs hi, rd_len hr hi, hn, o_nle _ _ (by decide) (by omega), o_c _ (by omega), o_addn, st_K_152 hs hi]
  exact ⟨fun q => by omega, fun _ => ⟨⟨by decide, by decide⟩, inA_o (st_L_152 hs hi) (by omega) (by decide), ⟨en.1, en.2.2.1⟩, k _ (rc_put hr hi en hn hn30) rfl⟩⟩
theorem w_cutBehind (hr : RC S F e X h) (hi : i < 5) {n x : Nat} (hn : S 12 i = Int32.ofNat n) (hn30 : n ≤ 30) (hx : x ≤ n) (k : ∀ h', RC (u2 S 12 i (Int32.ofNat x)) F e X h' → hR h' = hR h → hAR h' = hAR h → hK h' = hK h → hN h' = hN h → Q (.inl none) h') : WP d mX7_cutBehind 0 [some (.ref (151 + 12 * i)), some (.int (Int32.ofNat x))] [] h Q := by
  refine bX7_cutBehind_0 ?_
  rw [rd_len hr hi, hn, o_ltn _ _ (by decide) (by omega), o_le _ _ (by omega) (by omega)]
  refine ⟨fun c => by omega, fun _ => ⟨st_K_151 (rcS hr) hi, fun c => ?_, fun c => ?_⟩⟩
  · have e : u2 S 12 i (Int32.ofNat x) = S := by
      funext s q
      unfold u2
      by_cases c2 : s = 12 ∧ q = i
      · rw [if_pos c2, c2.1, c2.2, hn]; congr 1; omega
      · rw [if_neg c2]
    rw [e] at k
    exact k h hr rfl rfl rfl rfl
  · exact k _ (rc_cutl hr (by rw [hn, o_i _ (by omega), o_i _ (by omega)]; omega)) rfl rfl rfl rfl
theorem putS_len {m : Nat} {t c s v : Int32} : putS S m t c s v 12 m = S 12 m + 1 := u2_eq
theorem putsS_len {m p n0 mn : Nat} {w : RW} (hn : S 12 m = Int32.ofNat n0) (h0 : p ≤ n0) (h30 : n0 ≤ 30) (hmn : p + mn ≤ 30) (hw : ∀ k, k < mn → w (10 + 4 * k) ≠ 0) : ∀ k, k ≤ mn → ∃ l, putsS m p w k S 12 m = Int32.ofNat l ∧ p + k ≤ l ∧ l ≤ 30 := by
  intro k
  induction k with
  | zero => intro _; exact ⟨n0, hn, h0, h30⟩
  | succ k ih =>
    intro hk
    obtain ⟨l, hl, l1, l2⟩ := ih (by omega)
    by_cases c : tmAt (putsS m p w k S) m (Int32.ofNat (p + k + 1)) = w (10 + 4 * k)
    · refine ⟨l, ?_, ?_, l2⟩
      · show (if tmAt (putsS m p w k S) m (Int32.ofNat (p + k + 1)) = w (10 + 4 * k) then putsS m p w k S else _) 12 m = _
        rw [if_pos c]; exact hl
      · unfold tmAt at c
        rw [hl, o_i _ (by omega), o_i _ (by omega)] at c
        by_cases c2 : 1 ≤ ((p + k + 1 : Nat) : Int) ∧ ((p + k + 1 : Nat) : Int) ≤ (l : Int)
        · omega
        · rw [if_neg c2] at c
          exact absurd c.symm (hw k (by omega))
    · refine ⟨p + k + 1, ?_, by omega, by omega⟩
      show (if tmAt (putsS m p w k S) m (Int32.ofNat (p + k + 1)) = w (10 + 4 * k) then putsS m p w k S else putS (cutP (putsS m p w k S) m (Int32.ofNat (p + k))) m (w (10 + 4 * k)) (w (11 + 4 * k)) (w (12 + 4 * k)) (w (13 + 4 * k))) 12 m = _
      rw [if_neg c, putS_len]
      show u2 (putsS m p w k S) 12 m (Int32.ofNat (p + k)) 12 m + 1 = _
      rw [u2_eq, o_addn]
theorem w_putEntries {p n0 mn : Nat} {o : Nat} (hi : i < 5) (hn : S 12 i = Int32.ofNat n0) (h0 : p ≤ n0) (h30 : n0 ≤ 30) (hmn : p + mn ≤ 30) (hm3 : mn ≤ 3) (hw0 : e.2.2.1 0 = 2) (hw4 : e.2.2.1 4 = Int32.ofNat p) (hw8 : e.2.2.1 8 = Int32.ofNat mn) (hw : ∀ k, k < mn → e.2.2.1 (10 + 4 * k) ≠ 0) {b : Nat} (k : ∀ h', RC (putsS i p e.2.2.1 mn S) F e X h' → hR h' 1005 4 = b → Q (.inl none) h') :
    ∀ (m j : Nat) (h : HP) (u1 u2 : Option Value), j + m = mn → RC (putsS i p e.2.2.1 j S) F e X h → hR h 1005 4 = b → WP (d + 2) mX6_putEntries 2 [some (.ref o), some (.ref (151 + 12 * i)), some (.ref b), some (.int (Int32.ofNat j)), u1, u2] [] h Q := by
  intro m
  induction m with
  | zero =>
    intro j h u1 u2 hj hr hb
    obtain rfl : j = mn := by omega
    subst hb
    have t := rd_told hr
    refine bX6_putEntries_2 ⟨told_K hr, ?_⟩
    rw [t.2.2.2.2.1, hw8, o_le _ _ (by omega) (by omega)]
    exact ⟨fun _ => k h hr rfl, fun c => absurd (Nat.le_refl _) c⟩
  | succ m ih =>
    intro j h u1 u2 hj hr hb
    subst hb
    have t := rd_told hr
    have hs := rcS hr
    obtain ⟨l, hl, l1, l2⟩ := putsS_len (S := S) hn h0 h30 hmn hw j (by omega)
    have en := t.2.2.2.2.2.2.2.2.2.2.2.2.2 j (by omega) (by rw [hw8, o_i _ (by omega)]; omega)
    refine bX6_putEntries_2 ⟨told_K hr, ?_⟩
    rw [t.2.2.2.2.1, hw8, o_le _ _ (by omega) (by omega), told_R hr, t.2.2.2.2.2.1 (Or.inr (Or.inl hw0)), hw4, o_addn, o_add, o_c _ (by omega), told_K1 hr]
    refine ⟨fun c => by omega, fun _ => ⟨⟨by decide, by decide⟩, inA_o (told_L1 hr) (by omega) (by decide), by omega, st_K_151 hs hi, w_termAt hs (rcL hr) hi (by rw [hl, o_i _ (by omega)]; omega) ?_⟩⟩
    rw [KK_ret]
    refine bX6_putEntries_34 ⟨en.2.2.1, ?_⟩
    rw [en.2.2.2.1, o_sub1 _ (by omega)]
    have ej : p + 1 + j = p + j + 1 := by omega
    rw [ej]
    have nxt : putsS i p e.2.2.1 (j + 1) S = if tmAt (putsS i p e.2.2.1 j S) i (Int32.ofNat (p + j + 1)) = e.2.2.1 (10 + 4 * j) then putsS i p e.2.2.1 j S else putS (cutP (putsS i p e.2.2.1 j S) i (Int32.ofNat (p + j))) i (e.2.2.1 (10 + 4 * j)) (e.2.2.1 (11 + 4 * j)) (e.2.2.1 (12 + 4 * j)) (e.2.2.1 (13 + 4 * j)) := rfl
    refine ⟨fun c => ?_, fun c => ⟨by omega, st_K_151 hs hi, ?_⟩⟩
    · rw [if_pos c] at nxt
      refine bX6_putEntries_56 ?_
      rw [o_addn]
      exact ih (j + 1) h _ _ (by omega) (by rw [nxt]; exact hr) rfl
    · rw [if_neg c] at nxt
      have e1 : p + j + 1 - 1 = p + j := by omega
      rw [e1]
      refine w_cutBehind hr hi hl l2 (by omega) ?_
      intro h2 hr2 er2 ear ek enn
      rw [KK_ret]
      refine bX6_putEntries_50 ⟨by omega, st_K_151 (rcS hr2) hi, ?_⟩
      have en2 : EN h2 (hAR h (hR h 1005 4 + 1) j) (e.2.2.1 (10 + 4 * j)) (e.2.2.1 (11 + 4 * j)) (e.2.2.1 (12 + 4 * j)) (e.2.2.1 (13 + 4 * j)) := by
        have t2 := rd_told hr2
        have q := t2.2.2.2.2.2.2.2.2.2.2.2.2.2 j (by omega) (by rw [hw8, o_i _ (by omega)]; omega)
        rw [er2, ear] at q
        exact q
      refine w_put hr2 hi en2 (n := p + j) u2_eq (by omega) ?_
      intro h3 hr3 er3
      rw [KK_ret]
      refine bX6_putEntries_56 ?_
      rw [o_addn]
      exact ih (j + 1) h3 _ _ (by omega) (by rw [nxt]; exact hr3) (by rw [er3, er2])
/-- the message being written is the one at the end of the row, if there is room -/
theorem w_sendAck {e1 : Int32} {e3 : RW × UInt32} (hr : RC S F (e1, 0, e3) X h) (hi : i < 5) (h0 : 0 ≤ (S 39 0).toInt) (h60 : (S 39 0).toInt ≤ 60) (hk : e3.1 0 = 2) {y x : Int32} (hy : isZ y = true) {u : Option Value} (k : ∀ h' (_ : Int32), RC (snd (S, F) (ackW S i (e3.1 1) y x) e3.2).1 (snd (S, F) (ackW S i (e3.1 1) y x) e3.2).2 (e1, 0, e3) X h' → Q (.inl none) h') : WP (d + 2) mX6_sendAck 0 [some (.ref 131), some (.ref (150 + 12 * i)), some (.ref (hR h 1005 4)), some (.int y), some (.int x), u] [] h Q := by
  have hs := rcS hr
  have t := rd_told hr
  refine bX6_sendAck_0 ⟨st_K_131 hs, st_K_150 hs hi, told_K hr, ?_⟩
  rw [st_R_601_131 hs, st_I_800_150 hs hi, rd_term hr hi, t.2.1]
  refine ⟨by decide, st_K_4 hs, w_send hr h0 h60 ?_⟩
  intro h' a hr' hf' ha ear er hm
  rw [KK_ret]
  have er5 : hR h' 1005 4 = hR h 1005 4 := by rw [er]
  have t' := rd_told hr'
  have K' := told_K hr'
  rw [er5] at t' K'
  obtain ⟨m0, m1, m2, m3, m4, m5, m6, m7, m8, m10, m11, m12, m13⟩ := hm
  refine bX6_sendAck_20 ⟨fr_K hr' hf', hy, K', k _ e1 ?_⟩
  rw [t'.2.2.2.2.2.2.2.2.2.2.2.2.1 (Or.inl hk)]
  refine rc_fin h0 h60 (rc_m907 (rc_m904 (rc_m908 hr' hf' hy) hf'.sI) hf'.sI.sI) ha (MSGw_mk ?_ ?_ ?_ ?_ ?_ ?_ ?_ ?_ ?_ ?_ ?_ ?_ ?_ ?_) <;> simp [hI_sF, hI_sI, hF_sF, hF_sI, ackW, wu, w4, m0, m1, m2, m3, m4, m5, m6, m7, m8, m10, m11, m12, m13]
end HEARL
