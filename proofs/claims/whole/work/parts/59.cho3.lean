section CHOU
variable {S S' : SI} {F : SF} {e : EX} {X : MX} {h h' : HP} {d : Nat} {Q : Out → HP → Prop} {i : Nat} {e1 : Int32} {e3 : RW × UInt32} {a j : Nat}
theorem w_acc_46 (hi : i < 5) (hj : j < 4) {n : Nat} (hn : S 0 0 = Int32.ofNat n) (hn5 : n ≤ 5) {q : Nat} (hq : S 39 0 = Int32.ofNat q) (hq60 : q ≤ 60) (h35 : S 35 (4 * i + j) = 1) (h31 : S 31 (4 * i + j) ≠ -1) {dc : Int32} (k : ∀ h' (_ : Int32), RC (toAll (fun o => accW S i (4 * i + j) o dc) FP.fconst0 i n (S, F)).1 (toAll (fun o => accW S i (4 * i + j) o dc) FP.fconst0 i n (S, F)).2 (e1, 0, e3) X h' → Q (.inl none) h') :
    ∀ (m l : Nat) (h : HP) (u : Option Value), l + m = n → RC (toAll (fun o => accW S i (4 * i + j) o dc) FP.fconst0 i l (S, F)).1 (toAll (fun o => accW S i (4 * i + j) o dc) FP.fconst0 i l (S, F)).2 (e1, 0, e3) X h → WP (d + 2) mX1_sendAccepts 46 [some (.ref 132), some (.ref (150 + 12 * i)), some (.ref (158 + 12 * i + j)), some (.int dc), some (.int (Int32.ofNat l)), u] [] h Q := by
  intro m
  induction m with
  | zero =>
    intro l h u hl hr
    obtain rfl : l = n := by omega
    have hs := rcS hr
    refine bX1_sendAccepts_46 ⟨st_K_132 hs, ?_⟩
    rw [st_R_101_132 hs, rd_n hr, toAll_ne (by decide) (by decide) (by decide), hn, o_le _ _ (by omega) (by omega)]
    exact ⟨st_K_4 hs, fun _ => k h e1 hr, fun c => absurd (Nat.le_refl _) c⟩
  | succ m ih =>
    intro l h u hl hr
    have hs := rcS hr
    have ch := cho_of hr hi hj
    obtain ⟨q', hq', hq2⟩ := toAll_cnt (P := (S, F)) (g := fun o => accW S i (4 * i + j) o dc) (c := FP.fconst0) (m := i) hq hq60 l
    refine bX1_sendAccepts_46 ⟨st_K_132 hs, ?_⟩
    rw [st_R_101_132 hs, rd_n hr, toAll_ne (by decide) (by decide) (by decide), hn, o_le _ _ (by omega) (by omega), st_I_800_150 hs hi, o_eq _ _ (by omega) (by omega), ch.2.2.2.2.1, toAll_ne (by decide) (by decide) (by decide), o_addn]
    refine ⟨st_K_4 hs, fun c => by omega, fun _ => ⟨st_K_150 hs hi, fun c => ?_, fun c => ⟨st_K_158 hs hi hj, by decide, w_send hr (by rw [hq', o_i _ (by omega)]; omega) (by rw [hq', o_i _ (by omega)]; omega) ?_⟩⟩⟩
    · refine ih (l + 1) h u (by omega) ?_
      unfold toAll
      rw [if_pos c]
      exact hr
    · intro h' a hr' hf' ha ear er hm
      rw [KK_ret]
      obtain ⟨m0, m1, m2, m3, m4, m5, m6, m7, m8, m10, m11, m12, m13⟩ := hm
      have ch' := cho_of hr' hi hj
      have e31 : (toAll (fun o => accW S i (4 * i + j) o dc) FP.fconst0 i l (S, F)).1 31 (4 * i + j) = S 31 (4 * i + j) := toAll_ne (by decide) (by decide) (by decide) _ _
      have e35 : (toAll (fun o => accW S i (4 * i + j) o dc) FP.fconst0 i l (S, F)).1 35 (4 * i + j) = S 35 (4 * i + j) := toAll_ne (by decide) (by decide) (by decide) _ _
      have e205 : hI h' 205 (158 + 12 * i + j) = S 32 (4 * i + j) := by
        have q := (ch'.2.2.2.2.2 (by rw [e31]; exact h31)).2.2.1 (by rw [e35]; exact h35)
        rw [toAll_ne (by decide) (by decide) (by decide)] at q
        exact q
      refine bX1_sendAccepts_86 ⟨fr_K hr' hf', st_K_158 (rcS hr') hi hj, ?_⟩
      rw [o_addn, show hI (sI h' 911 a dc) 205 (158 + 12 * i + j) = S 32 (4 * i + j) from e205]
      refine ih (l + 1) _ _ (by omega) ?_
      have q := rc_fin (w := accW S i (4 * i + j) l dc) (c := FP.fconst0) (by rw [hq', o_i _ (by omega)]; omega) (by rw [hq', o_i _ (by omega)]; omega) (rc_m913 (v := S 32 (4 * i + j)) (rc_m911 (v := dc) hr' hf') hf'.sI) ha (MSGw_mk ?_ ?_ ?_ ?_ ?_ ?_ ?_ ?_ ?_ ?_ ?_ ?_ ?_ ?_)
      · unfold toAll
        rw [if_neg c]
        exact q
      all_goals simp [hI_sF, hI_sI, hF_sF, hF_sI, accW, wu, w4, m0, m1, m2, m3, m4, m5, m6, m7, m8, m10, m11, m12, m13]
theorem w_sendAccepts (hr : RC S F (e1, 0, e3) X h) (hi : i < 5) (hj : j < 4) {n : Nat} (hn : S 0 0 = Int32.ofNat n) (hn5 : n ≤ 5) {q : Nat} (hq : S 39 0 = Int32.ofNat q) (hq60 : q ≤ 60) (h35 : S 35 (4 * i + j) = 0) (h31 : S 31 (4 * i + j) ≠ -1) (h27 : S 27 (4 * i + j) = S 31 (4 * i + j)) {dc : Int32} {u1 u2' : Option Value} (k : ∀ h' (_ : Int32), RC (toAll (fun o => accW (goOnS S i (4 * i + j)) i (4 * i + j) o dc) FP.fconst0 i n (goOnS S i (4 * i + j), F)).1 (toAll (fun o => accW (goOnS S i (4 * i + j)) i (4 * i + j) o dc) FP.fconst0 i n (goOnS S i (4 * i + j), F)).2 (e1, 0, e3) X h' → Q (.inl none) h') : WP (d + 2) mX1_sendAccepts 0 [some (.ref 132), some (.ref (150 + 12 * i)), some (.ref (158 + 12 * i + j)), some (.int dc), u1, u2'] [] h Q := by
  have hs := rcS hr
  have ch := cho_of hr hi hj
  have ch2 := ch.2.2.2.2.2 h31
  have ch3 := ch2.2.2.2 (by rw [h35]; decide)
  have g27 : goOnS S i (4 * i + j) 31 (4 * i + j) = S 31 (4 * i + j) := by
    unfold goOnS
    rw [u2_ne (by omega), u2_ne (by omega), u2_ne (by omega), u2_ne (by omega)]
  have g35 : goOnS S i (4 * i + j) 35 (4 * i + j) = 1 := by
    unfold goOnS
    rw [u2_ne (by omega), u2_ne (by omega), u2_ne (by omega), u2_eq]
  have fin : ∀ h1 : HP, RC (goOnS S i (4 * i + j)) F (e1, 0, e3) X h1 → WP (d + 2) mX1_sendAccepts 43 [some (.ref 132), some (.ref (150 + 12 * i)), some (.ref (158 + 12 * i + j)), some (.int dc), u1, u2'] [] h1 Q := by
    intro h1 hr1
    exact bX1_sendAccepts_43 (w_acc_46 (S := goOnS S i (4 * i + j)) hi hj hn hn5 hq hq60 g35 (by rw [g27]; exact h31) k n 0 h1 _ (Nat.zero_add _) hr1)
  refine bX1_sendAccepts_0 ⟨st_K_158 hs hi hj, st_K_150 hs hi, ?_⟩
  have e800 : hI (sI h 206 (158 + 12 * i + j) 1) 800 (150 + 12 * i) = Int32.ofNat i := st_I_800_150 hs hi
  rw [e800]
  have e208 : hI (sI (sI h 206 (158 + 12 * i + j) 1) 207 (158 + 12 * i + j) ((1 : Int32) <<< (Int32.ofNat i &&& 31))) 208 (158 + 12 * i + j) = S 34 (4 * i + j) := ch3.1
  have e205 : hI (sI (sI h 206 (158 + 12 * i + j) 1) 207 (158 + 12 * i + j) ((1 : Int32) <<< (Int32.ofNat i &&& 31))) 205 (158 + 12 * i + j) = hI h 205 (158 + 12 * i + j) := rfl
  have e204 : hI (sI (sI h 206 (158 + 12 * i + j) 1) 207 (158 + 12 * i + j) ((1 : Int32) <<< (Int32.ofNat i &&& 31))) 204 (158 + 12 * i + j) = S 31 (4 * i + j) := ch.2.2.2.2.1
  have e209 : hI (sI (sI h 206 (158 + 12 * i + j) 1) 207 (158 + 12 * i + j) ((1 : Int32) <<< (Int32.ofNat i &&& 31))) 209 (158 + 12 * i + j) = hI h 209 (158 + 12 * i + j) := rfl
  have e204' : ∀ v, hI (sI (sI (sI h 206 (158 + 12 * i + j) 1) 207 (158 + 12 * i + j) ((1 : Int32) <<< (Int32.ofNat i &&& 31))) 205 (158 + 12 * i + j) v) 204 (158 + 12 * i + j) = S 31 (4 * i + j) := fun _ => ch.2.2.2.2.1
  have e205' : ∀ v, hI (sI (sI (sI h 206 (158 + 12 * i + j) 1) 207 (158 + 12 * i + j) ((1 : Int32) <<< (Int32.ofNat i &&& 31))) 205 (158 + 12 * i + j) v) 205 (158 + 12 * i + j) = v := fun v => by rw [hI_sI, if_pos ⟨rfl, rfl⟩]
  rw [e208, e205, e204, e209, e204', e205']
  refine ⟨fun c => ?_, fun c => ?_⟩
  · have e32 : hI h 205 (158 + 12 * i + j) = S 32 (4 * i + j) := by have := ch3.2; rw [if_pos c] at this; exact this
    rw [e32]
    refine bX1_sendAccepts_40 ⟨by omega, st_K_158 hs hi hj, bX2_takeOn_0 ⟨st_K_158 hs hi hj, ?_⟩⟩
    rw [KK_ret]
    refine fin _ (rc_cho hr hi hj (fun f q hq => ?_) (by simp only [sI_snd]) (fun s q hq => ?_) ?_)
    · rw [ne_sI (by omega), ne_sI (by omega), ne_sI (by omega), ne_sI (by omega), ne_sI (by omega)]
    · unfold goOnS
      rw [u2_ne (by omega), u2_ne (by omega), u2_ne (by omega), u2_ne (by omega)]
    · unfold CHO goOnS
      simp only [hI_sI, u2]
      simpa [bitI, h27] using ⟨ch.2.2.2.1, ch.2.2.2.2.1, fun _ => e32⟩
  · have e32 : hI h 209 (158 + 12 * i + j) = S 32 (4 * i + j) := by have := ch3.2; rw [if_neg c] at this; exact this
    rw [e32]
    refine bX1_sendAccepts_40 ⟨by omega, st_K_158 hs hi hj, bX2_takeOn_0 ⟨st_K_158 hs hi hj, ?_⟩⟩
    rw [KK_ret]
    refine fin _ (rc_cho hr hi hj (fun f q hq => ?_) (by simp only [sI_snd]) (fun s q hq => ?_) ?_)
    · rw [ne_sI (by omega), ne_sI (by omega), ne_sI (by omega), ne_sI (by omega), ne_sI (by omega), ne_sI (by omega)]
    · unfold goOnS
      rw [u2_ne (by omega), u2_ne (by omega), u2_ne (by omega), u2_ne (by omega)]
    · unfold CHO goOnS
      simp only [hI_sI, u2]
      simpa [bitI, h27] using ⟨ch.2.2.2.1, ch.2.2.2.2.1⟩
theorem w_hearPromised (hr : RC S F (e1, 0, e3) X h) (hi : i < 5) (hj : j < 4) {n : Nat} (hn : S 0 0 = Int32.ofNat n) (hn5 : n ≤ 5) {q : Nat} (hq : S 39 0 = Int32.ofNat q) (hq60 : q ≤ 60) (hw0 : e3.1 0 = 5) (hw6 : e3.1 6 = Int32.ofNat j) (hw3 : e3.1 3 ≠ -1) {f g : Nat} (hf : e3.1 1 = Int32.ofNat f) (hf5 : f < 5) (hz : S 35 (4 * i + j) = 0 ∨ S 35 (4 * i + j) = 1) (hg : S 31 (4 * i + j) ≠ -1 → S 33 (4 * i + j) = Int32.ofNat g ∧ g < 32) (h34 : S 31 (4 * i + j) ≠ -1 → -1 ≤ (S 34 (4 * i + j)).toInt) (k : ∀ h' (_ : Int32), RC (promisedP (S, F) i e3.1).1 (promisedP (S, F) i e3.1).2 (e1, 0, e3) X h' → Q (.inl none) h') : WP (d + 3) mX1_hearPromised 0 [some (.ref 132), some (.ref (150 + 12 * i)), some (.ref (158 + 12 * i + j)), some (.ref (hR h 1005 4))] [] h Q := by
  have hs := rcS hr
  have t := rd_told hr
  have ch := cho_of hr hi hj
  have hn6 : nt (e3.1 6) = j := nt_of hw6 (by omega)
  unfold promisedP at k
  rw [hn6] at k
  refine bX1_hearPromised_0 ⟨st_K_158 hs hi hj, told_K hr, ?_⟩
  rw [ch.2.2.2.2.1, t.2.2.2.1, ch.1, t.2.1]
  refine ⟨fun c => ?_, fun c => ⟨fun c2 => ?_, fun c2 => ?_⟩⟩
  · rw [if_pos (Or.inl c)] at k; exact k h e1 hr
  · rw [if_pos (Or.inr (Or.inl c2))] at k; exact k h e1 hr
  · have c1' : S 31 (4 * i + j) = e3.1 3 := Classical.not_not.mp c
    have c2' : S 27 (4 * i + j) = e3.1 3 := Classical.not_not.mp c2
    have h31 : S 31 (4 * i + j) ≠ -1 := by rw [c1']; exact hw3
    have ch2 := ch.2.2.2.2.2 h31
    rw [ch2.1]
    refine ⟨fun c3 => ⟨by omega, ?_⟩, fun c3 => ?_⟩
    · have ch3 := ch2.2.2.2 (by rw [c3]; decide)
      rw [if_neg (fun q => q.elim c (fun q => q.elim c2 (fun q => by have q2 : S 35 (4 * i + j) = 1 := q; rw [c3] at q2; exact absurd q2 (by decide))))] at k
      have e207 : hI h 207 (158 + 12 * i + j) = S 33 (4 * i + j) := by rw [ch2.2.1, if_neg (by rw [c3]; decide)]
      rw [e207]
      obtain ⟨hg1, hg2⟩ := hg h31
      obtain ⟨x, hx, hxb⟩ := bit_or hg1 hg2 hf5
      rw [← hf] at hxb
      have e4 : (S 33 (4 * i + j) ||| (1 : Int32) <<< (e3.1 1 &&& 31)) = Int32.ofNat x := hxb
      have t912 := (t.2.2.2.2.2.2.2.2.2.2.1 hw0)
      have e912 : ∀ v, hI (sI h 207 (158 + 12 * i + j) v) 912 (hR h 1005 4) = e3.1 4 := fun _ => t912.1
      have e913 : ∀ v, hI (sI h 207 (158 + 12 * i + j) v) 913 (hR h 1005 4) = e3.1 5 := fun _ => t912.2
      show WP _ _ _ _ _ (sI h 207 (158 + 12 * i + j) (S 33 (4 * i + j) ||| (1 : Int32) <<< (e3.1 1 &&& 31))) _
      rw [e912, e913, e4]
      have hT : ∀ h1 : HP, hR h1 = hR h → RC (tellS S (4 * i + j) e3.1) F (e1, 0, e3) X h1 → WP (d + 3) mX1_hearPromised 57 [some (.ref 132), some (.ref (150 + 12 * i)), some (.ref (158 + 12 * i + j)), some (.ref (hR h 1005 4))] [] h1 Q := by
        intro h1 er1 hr1
        have hs1 := rcS hr1
        have ch1 := cho_of hr1 hi hj
        have T : ∀ s, s ≠ 33 → s ≠ 34 → s ≠ 32 → ∀ q, tellS S (4 * i + j) e3.1 s q = S s q := by
          intro s a1 a2 a3 q
          unfold tellS
          split
          · rw [u2_ne (Or.inl a3), u2_ne (Or.inl a2), u2_ne (Or.inl a1)]
          · rw [u2_ne (Or.inl a1)]
        have T33 : tellS S (4 * i + j) e3.1 33 (4 * i + j) = Int32.ofNat x := by
          unfold tellS
          split
          · rw [u2_ne (by omega), u2_ne (by omega), u2_eq, hxb]
          · rw [u2_eq, hxb]
        have q31 : tellS S (4 * i + j) e3.1 31 (4 * i + j) = S 31 (4 * i + j) := T 31 (by decide) (by decide) (by decide) _
        have q35 : tellS S (4 * i + j) e3.1 35 (4 * i + j) = 0 := (T 35 (by decide) (by decide) (by decide) _).trans c3
        have e2071 : hI h1 207 (158 + 12 * i + j) = Int32.ofNat x := by
          have := (ch1.2.2.2.2.2 (by rw [q31]; exact h31)).2.1
          rw [q35, if_neg (by decide), T33] at this
          exact this
        refine bX1_hearPromised_57 ⟨st_K_132 hs1, st_K_158 hs1 hi hj, ?_⟩
        rw [st_R_101_132 hs1, e2071]
        refine ⟨by decide, st_K_4 hs1, w_areMost hr1 hx ?_⟩
        rw [KK_ret]
        refine bX1_hearPromised_68 ?_
        rw [b2i_z, decide_eq_false_iff_not]
        dsimp only at k
        rw [T33] at k
        refine ⟨fun c4 => ?_, fun c4 => ?_⟩
        · rw [← i_nlt, Classical.not_not] at c4
          rw [if_pos c4] at k
          exact bX1_hearPromised_81 (k h1 e1 hr1)
        · rw [Classical.not_not, ← i_nlt] at c4
          rw [if_neg c4] at k
          have t1 := rd_told hr1
          have K1 := told_K hr1
          rw [er1] at t1 K1
          have e911 : hI h1 911 (hR h 1005 4) = e3.1 6 := t1.2.2.2.2.2.2.2.2.2.1 (by show 4 ≤ e3.1 0; rw [hw0]; decide)
          rw [e911]
          refine ⟨K1, by decide, st_K_132 hs1, w_sendAccepts hr1 hi hj (n := n) ((T 0 (by decide) (by decide) (by decide) _).trans hn) hn5 ((T 39 (by decide) (by decide) (by decide) _).trans hq) hq60 q35 (by rw [q31]; exact h31) (by rw [q31, T 27 (by decide) (by decide) (by decide), c1', c2']) ?_⟩
          intro h' e' qq
          rw [KK_ret]
          rw [nt_of ((T 0 (by decide) (by decide) (by decide) _).trans hn) (by omega)] at k
          exact bX1_hearPromised_81 (k h' e' qq)
      have e208 : hI (sI h 207 (158 + 12 * i + j) (Int32.ofNat x)) 208 (158 + 12 * i + j) = S 34 (4 * i + j) := ch3.1
      refine bX2_learnTold_0 ⟨st_K_158 hs hi hj, ?_⟩
      rw [e208]
      refine ⟨fun c5 => ?_, fun c5 => ?_⟩
      · rw [KK_ret]
        refine hT _ rfl (rc_cho hr hi hj (fun f q hq => ne_sI (by omega)) (sI_snd _ _ _ _) (fun s q hq => ?_) ?_)
        · unfold tellS
          rw [if_neg (by rw [i_nlt]; exact c5), u2_ne (by omega)]
        · have eT : tellS S (4 * i + j) e3.1 = u2 S 33 (4 * i + j) (Int32.ofNat x) := by
            unfold tellS
            dsimp only
            rw [if_neg (by rw [i_nlt]; exact c5), hxb]
          rw [eT]
          unfold CHO
          simp only [hI_sI, u2]
          simpa [c3] using ⟨ch.1, ch.2.1, ch.2.2.1, ch.2.2.2.1, ch.2.2.2.2.1, fun _ => ⟨ch2.1.trans c3, ch3⟩⟩
      · rw [← i_nlt, Classical.not_not] at c5
        rw [KK_ret]
        have eT : tellS S (4 * i + j) e3.1 = u2 (u2 (u2 S 33 (4 * i + j) (Int32.ofNat x)) 34 (4 * i + j) (e3.1 4)) 32 (4 * i + j) (e3.1 5) := by
          unfold tellS
          dsimp only
          rw [if_pos c5, hxb]
        have hn4 : ¬ e3.1 4 = -1 := by
          intro w
          rw [w, Int32.lt_iff_toInt_lt, i_neg1] at c5
          have := h34 h31
          omega
        refine hT _ rfl (rc_cho hr hi hj (fun f q hq => ?_) (by simp only [sI_snd]) (fun s q hq => ?_) ?_)
        · rw [ne_sI (by omega), ne_sI (by omega), ne_sI (by omega)]
        · rw [eT, u2_ne (by omega), u2_ne (by omega), u2_ne (by omega)]
        · rw [eT]
          unfold CHO
          simp only [hI_sI, u2]
          simpa [c3, hn4] using ⟨ch.1, ch.2.1, ch.2.2.1, ch.2.2.2.1, ch.2.2.2.2.1, fun _ => ch2.1.trans c3⟩
    · have c4 : S 35 (4 * i + j) = 1 := hz.resolve_left c3
      rw [if_pos (Or.inr (Or.inr c4))] at k
      exact k h e1 hr
end CHOU
