section BEAT
variable {S : SI} {F : SF} {e : EX} {X : MX} {h : HP} {d : Nat} {Q : Out → HP → Prop} {i : Nat} {e1 : Int32} {e3 : RW × UInt32} {a : Nat}
/-- q of the entries behind place p of machine i stand in the message at a -/
def ENS (S : SI) (i p : Nat) (h : HP) (a q : Nat) : Prop := ∀ k, k < q → EN h (hAR h (a + 1) k) (S 14 (30 * i + p + k)) (S 15 (30 * i + p + k)) (S 16 (30 * i + p + k)) (S 17 (30 * i + p + k))
theorem w_addEntries (hi : i < 5) {p n0 : Nat} (hn : S 12 i = Int32.ofNat n0) (h30 : n0 ≤ 30) (hp : p ≤ n0) {h0 : HP} (k : ∀ h', RC S F e X h' → FREE S h' a → hI h' 910 a = Int32.ofNat (min 3 (n0 - p)) → ENS S i p h' a (min 3 (n0 - p)) → (∀ f, f ≠ 910 → hI h' f a = hI h0 f a) → hF h' = hF h0 → hR h' = hR h0 → (∀ q, hAR h' 5 q = hAR h0 5 q) → Q (.inl none) h') :
    ∀ (m j : Nat) (h : HP) (u : Option Value), j + m = 3 → RC S F e X h → FREE S h a → hI h 910 a = Int32.ofNat (min j (n0 - p)) → ENS S i p h a (min j (n0 - p)) → (∀ f, f ≠ 910 → hI h f a = hI h0 f a) → hF h = hF h0 → hR h = hR h0 → (∀ q, hAR h 5 q = hAR h0 5 q) → WP (d + 1) mX9_addEntriesBehind 2 [some (.ref a), some (.ref (151 + 12 * i)), some (.int (Int32.ofNat p)), some (.int (Int32.ofNat j)), u] [] h Q := by
  intro m
  induction m with
  | zero =>
    intro j h u hj hr hf h910 hens hfi hff hfr hf5
    obtain rfl : j = 3 := by omega
    exact bX9_addEntriesBehind_2 ⟨fun _ => k h hr hf h910 hens hfi hff hfr hf5, fun c => absurd (by decide) c⟩
  | succ m ih =>
    intro j h u hj hr hf h910 hens hfi hff hfr hf5
    have hs := rcS hr
    refine bX9_addEntriesBehind_2 ?_
    rw [o_nle _ _ (by decide) (by omega), o_addn, o_add]
    refine ⟨fun c => by omega, fun _ => ⟨by omega, st_K_151 hs hi, w_at hs (rcL hr) hi (by rw [hn, o_i _ (by omega)]; omega) ?_⟩⟩
    rw [KK_ret]
    have ex : p + 1 + j = p + j + 1 := by omega
    rw [ex, hn, o_i _ (by omega), o_i _ (by omega)]
    refine bX9_addEntriesBehind_16 ?_
    rw [o_addn]
    by_cases c : p + j + 1 ≤ n0
    · rw [if_pos (by omega)]
      have e1 : (((p + j + 1 : Nat) : Int) - 1).toNat = p + j := by omega
      rw [e1]
      have en := (rcL hr i hi).2 (p + j) (by omega) (by rw [hn, o_i _ (by omega)]; omega)
      have hlo := hf.lo
      have mj : min j (n0 - p) = j := by omega
      have mj1 : min (j + 1) (n0 - p) = j + 1 := by omega
      rw [mj] at h910 hens
      refine ⟨fun c2 => by have := en.1; omega, fun _ => ⟨fr_K hr hf, ?_⟩⟩
      rw [fr_R hr hf, fr_K1 hr hf, h910, o_c _ (by omega), o_addn]
      have hr2 := rc_m910 (v := Int32.ofNat (j + 1)) (rc_mAR (k := j) (v := hAR h (152 + 12 * i) (p + j)) hr hf (Or.inr ⟨en.1, en.2.1, en.2.2.1⟩)) hf.sAR
      refine ⟨⟨by decide, by decide⟩, inA_o (fr_L1 hr hf) (by omega) (by decide), ⟨en.1, en.2.2.1⟩, ih (j + 1) _ _ (by omega) hr2 hf.sAR.sI ?_ ?_ ?_ hff hfr ?_⟩
      · rw [mj1, hI_sI, if_pos ⟨rfl, rfl⟩]
      · rw [mj1]
        intro q hq
        show EN h (hAR (sAR h (a + 1) j (hAR h (152 + 12 * i) (p + j))) (a + 1) q) _ _ _ _
        by_cases c2 : q = j
        · subst c2
          rw [hAR_sAR, if_pos ⟨rfl, rfl⟩, Nat.add_assoc]
          exact en
        · rw [hAR_sAR, if_neg (fun w => c2 w.2)]
          exact hens q (by omega)
      · intro f hf9
        rw [hI_sI, if_neg (fun w => hf9 w.1)]
        exact hfi f hf9
      · intro q
        show hAR (sAR h (a + 1) j (hAR h (152 + 12 * i) (p + j))) 5 q = _
        have h15 : a + 1 ≠ 5 := by omega
        rw [hAR_sAR, if_neg (fun w => h15 w.1.symm)]
        exact hf5 q
    · rw [if_neg (by omega)]
      have mj : min (j + 1) (n0 - p) = min j (n0 - p) := by omega
      refine ⟨fun _ => ih (j + 1) h _ (by omega) hr hf (by rw [mj]; exact h910) (by rw [mj]; exact hens) hfi hff hfr hf5, fun c2 => absurd rfl c2⟩
theorem beatN_le {m j : Nat} : beatN S m j ≤ 3 * j := by
  induction j with
  | zero => exact Nat.le_refl _
  | succ j ih =>
    unfold beatN manyN
    split <;> omega
theorem w_beat_4 (hi : i < 5) {n : Nat} (hn : S 0 0 = Int32.ofNat n) (hn5 : n ≤ 5) {n0 : Nat} (hl : S 12 i = Int32.ofNat n0) (h30 : n0 ≤ 30) (hsup : ∀ o, o < n → o ≠ i → ∃ p, S 19 (5 * i + o) = Int32.ofNat p ∧ p ≤ n0) {q : Nat} (hq : S 39 0 = Int32.ofNat q) (hq60 : q ≤ 60) (k : ∀ h' (_ : Int32), RC (beatP (S, F) i n).1 (beatP (S, F) i n).2 (e1, 0, e3) X h' → Q (.inl (some (.int (Int32.ofNat (beatN S i n))))) h') :
    ∀ (m j : Nat) (h : HP) (u : Option Value), j + m = n → RC (toAll (apW S i) (F 7 i) i j (S, F)).1 (toAll (apW S i) (F 7 i) i j (S, F)).2 (e1, 0, e3) X h → WP (d + 2) mX6_letBeat 4 [some (.ref 131), some (.ref (150 + 12 * i)), some (.int (Int32.ofNat (beatN S i j))), some (.int (Int32.ofNat j)), u] [] h Q := by
  intro m
  induction m with
  | zero =>
    intro j h u hj hr
    obtain rfl : j = n := by omega
    have hs := rcS hr
    refine bX6_letBeat_4 ⟨st_K_131 hs, ?_⟩
    rw [st_R_601_131 hs, rd_n hr, toAll_ne (by decide) (by decide) (by decide), hn, o_le _ _ (by omega) (by omega)]
    exact ⟨st_K_4 hs, fun _ => k h e1 hr, fun c => absurd (Nat.le_refl _) c⟩
  | succ m ih =>
    intro j h u hj hr
    have hs := rcS hr
    obtain ⟨q', hq', hq2⟩ := toAll_cnt (P := (S, F)) (g := apW S i) (c := F 7 i) (m := i) hq hq60 j
    refine bX6_letBeat_4 ⟨st_K_131 hs, ?_⟩
    rw [st_R_601_131 hs, rd_n hr, toAll_ne (by decide) (by decide) (by decide), hn, o_le _ _ (by omega) (by omega), st_I_800_150 hs hi, o_eq _ _ (by omega) (by omega), rd_term hr hi, o_addn]
    refine ⟨st_K_4 hs, fun c => by omega, fun _ => ⟨st_K_150 hs hi, fun c => ?_, fun c => ⟨by decide, w_send hr (by rw [hq', o_i _ (by omega)]; omega) (by rw [hq', o_i _ (by omega)]; omega) ?_⟩⟩⟩
    · have := ih (j + 1) h u (by omega) (by unfold toAll; rw [if_pos c]; exact hr)
      unfold beatN at this
      rw [if_pos c] at this
      exact this
    · intro h' a hr' hf' ha ear er hm
      rw [KK_ret]
      obtain ⟨m0, m1, m2, m3, m4, m5, m6, m7, m8, m10, m11, m12, m13⟩ := hm
      have hs' := rcS hr'
      obtain ⟨p, hp, hpn⟩ := hsup j (by omega) c
      have hlT : (toAll (apW S i) (F 7 i) i j (S, F)).1 12 i = Int32.ofNat n0 := by rw [toAll_ne (by decide) (by decide) (by decide)]; exact hl
      refine bX6_letBeat_40 ⟨st_K_150 hs' hi, ?_⟩
      rw [st_R_801_150 hs' hi, st_R_802_150 hs' hi, st_R_500_153 hs' hi, o_c _ (by omega), rd_sup hr' hi (by omega), toAll_ne (by decide) (by decide) (by decide), hp]
      have hr2 := rc_m904 (v := Int32.ofNat p) hr' hf'
      have e2 : hI (sI h' 904 a (Int32.ofNat p)) 904 a = Int32.ofNat p := by rw [hI_sI, if_pos ⟨rfl, rfl⟩]
      rw [e2]
      refine ⟨st_K_153 hs' hi, st_K_154 hs' hi, inA_o (st_L_154 hs' hi) (by omega) (by decide), fr_K hr' hf', by omega, st_K_151 hs' hi, w_termAt (rcS hr2) (rcL hr2) hi (by rw [hlT, o_i _ (by omega)]; omega) ?_⟩
      rw [KK_ret]
      refine bX6_letBeat_70 ⟨fr_K hr2 hf'.sI, ?_⟩
      have et : tmAt (toAll (apW S i) (F 7 i) i j (S, F)).1 i (Int32.ofNat p) = tmAt S i (Int32.ofNat p) := by
        unfold tmAt
        rw [toAll_ne (by decide) (by decide) (by decide), toAll_ne (by decide) (by decide) (by decide)]
      rw [et]
      have hr3 := rc_m905 (v := tmAt S i (Int32.ofNat p)) hr2 hf'.sI
      have hf3 : FREE _ (sI (sI h' 904 a (Int32.ofNat p)) 905 a (tmAt S i (Int32.ofNat p))) a := hf'.sI.sI
      have e3' : hI (sI (sI h' 904 a (Int32.ofNat p)) 905 a (tmAt S i (Int32.ofNat p))) 904 a = Int32.ofNat p := by
        rw [hI_sI, if_neg (by omega), hI_sI, if_pos ⟨rfl, rfl⟩]
      have hlo := hf'.lo
      rw [e3', show hR (sI h' 904 a (Int32.ofNat p)) 801 (150 + 12 * i) = 151 + 12 * i from st_R_801_150 hs' hi]
      refine ⟨st_K_150 (rcS hr2) hi, fr_K hr2 hf'.sI, by omega, bX9_addEntriesBehind_0 (w_addEntries hi hlT h30 hpn (h0 := sI (sI h' 904 a (Int32.ofNat p)) 905 a (tmAt S i (Int32.ofNat p))) ?_ 3 0 _ _ rfl hr3 hf3 ?_ ?_ (fun _ _ => rfl) rfl rfl (fun _ => rfl))⟩
      · intro h4 hr4 hf4 h910 hens hfi hff hfr hf5
        rw [KK_ret]
        have hs4 := rcS hr4
        refine bX6_letBeat_87 ⟨st_K_150 hs4 hi, fr_K hr4 hf4, ?_⟩
        rw [rd_commit hr4 hi, toAll_ne (by decide) (by decide) (by decide), rd_clock hr4 hi, toAll_neF (by decide), o_addn]
        have e4 : hI (sI h4 906 a (S 13 i)) 910 a = Int32.ofNat (min 3 (n0 - p)) := by rw [hI_sI, if_neg (by omega)]; exact h910
        have hmn : manyN S i j = min 3 (n0 - p) := by
          unfold manyN
          rw [hl, hp, nt_of rfl (by omega), nt_of rfl (by omega)]
        rw [e4, o_add]
        have hb : beatN S i (j + 1) = beatN S i j + min 3 (n0 - p) := by
          show (if j = i then beatN S i j else beatN S i j + manyN S i j) = _
          rw [if_neg c, hmn]
        rw [← hb]
        have ha4 : nt ((toAll (apW S i) (F 7 i) i j (S, F)).1 39 0) < 60 → hAR h4 5 (nt ((toAll (apW S i) (F 7 i) i j (S, F)).1 39 0)) = a := fun q => (hf5 _).trans (ha q)
        have hr5 := rc_m907 (v := F 7 i) (rc_m906 (v := S 13 i) hr4 hf4) hf4.sI
        refine ih (j + 1) _ _ (by omega) ?_
        have q := rc_fin (w := apW S i j) (c := F 7 i) (by rw [hq', o_i _ (by omega)]; omega) (by rw [hq', o_i _ (by omega)]; omega) hr5 ha4 ?_
        · unfold toAll
          rw [if_neg c]
          exact q
        · have g : ∀ f, f ≠ 910 → f ≠ 906 → f ≠ 905 → f ≠ 904 → hI (sF (sI h4 906 a (S 13 i)) 907 a (F 7 i)) f a = hI h' f a := by
            intro f h1 h2 h3 h5
            rw [hI_sF, hI_sI, if_neg (fun w => h2 w.1), hfi f h1, hI_sI, if_neg (fun w => h3 w.1), hI_sI, if_neg (fun w => h5 w.1)]
          have w8 : apW S i j 8 = Int32.ofNat (min 3 (n0 - p)) := by unfold apW; rw [hmn]; rfl
          have e9 : (toAll (apW S i) (F 7 i) i j (S, F)).1 9 i = S 9 i := toAll_ne (by decide) (by decide) (by decide) j i
          refine ⟨?_, ?_, ?_, ?_, ?_, fun _ => ?_, fun _ => ?_, fun _ => ?_, fun w => ?_, fun w => ?_, fun w => ?_, fun w => ?_, fun _ => ?_, fun k3 hk3 hq3 => ?_⟩
          · rw [g 900 (by decide) (by decide) (by decide) (by decide), m0]; rfl
          · rw [g 901 (by decide) (by decide) (by decide) (by decide), m1]; rfl
          · rw [g 902 (by decide) (by decide) (by decide) (by decide), m2]; rfl
          · rw [g 903 (by decide) (by decide) (by decide) (by decide), m3, e9]; rfl
          · rw [w8, hI_sF, e4]
          · show hI (sI h4 906 a (S 13 i)) 904 a = S 19 (5 * i + j)
            rw [hI_sI, if_neg (by omega), hfi 904 (by decide), hp, hI_sI, if_neg (by omega), hI_sI, if_pos ⟨rfl, rfl⟩]
          · show hI (sI h4 906 a (S 13 i)) 905 a = tmAt S i (S 19 (5 * i + j))
            rw [hI_sI, if_neg (by omega), hfi 905 (by decide), hp, hI_sI, if_pos ⟨rfl, rfl⟩]
          · show hI (sI h4 906 a (S 13 i)) 906 a = S 13 i
            rw [hI_sI, if_pos ⟨rfl, rfl⟩]
          · exact absurd w (by show ¬ ((2 : Int32) = 1 ∨ (2 : Int32) = 3); decide)
          · exact absurd w (by show ¬ ((4 : Int32) ≤ 2); decide)
          · exact absurd w (by show ¬ ((2 : Int32) = 5); decide)
          · exact absurd w (by show ¬ ((2 : Int32) = 6); decide)
          · rw [hF_sF, if_pos ⟨rfl, rfl⟩]
          · rw [w8, o_i _ (by omega)] at hq3
            have en := hens k3 (by omega)
            rw [toAll_ne (by decide) (by decide) (by decide), toAll_ne (by decide) (by decide) (by decide), toAll_ne (by decide) (by decide) (by decide), toAll_ne (by decide) (by decide) (by decide)] at en
            have ew : ∀ r, r < 4 → apW S i j (10 + r + 4 * k3) = S (14 + r) (30 * i + p + k3) := by
              intro r hr4'
              unfold apW entW
              rw [if_neg (by omega), if_neg (by omega), if_neg (by omega), if_neg (by omega), if_neg (by omega), if_neg (by omega), if_neg (by omega), if_neg (by omega), hmn, if_pos (by omega), hp, nt_of rfl (by omega)]
              have ea : (10 + r + 4 * k3 - 10) % 4 = r := by omega
              have eb : (10 + r + 4 * k3 - 10) / 4 = k3 := by omega
              rw [ea, eb]
            have w0 := ew 0 (by decide)
            have w1 := ew 1 (by decide)
            have w2 := ew 2 (by decide)
            have w3 := ew 3 (by decide)
            rw [show 10 + 4 * k3 = 10 + 0 + 4 * k3 from rfl, show 11 + 4 * k3 = 10 + 1 + 4 * k3 from rfl, show 12 + 4 * k3 = 10 + 2 + 4 * k3 from rfl, show 13 + 4 * k3 = 10 + 3 + 4 * k3 from rfl, w0, w1, w2, w3]
            exact en
      · show hI (sI (sI h' 904 a (Int32.ofNat p)) 905 a (tmAt S i (Int32.ofNat p))) 910 a = _
        rw [hI_sI, if_neg (by omega), hI_sI, if_neg (by omega), m10, Nat.zero_min]
        rfl
      · rw [Nat.zero_min]
        intro q hq
        omega
end BEAT
