section CHOT
variable {S S' : SI} {F : SF} {e : EX} {X : MX} {h h' : HP} {d : Nat} {Q : Out → HP → Prop} {i : Nat} {e1 : Int32} {e3 : RW × UInt32} {a j : Nat}
theorem w_hearPrepare (hr : RC S F (e1, 0, e3) X h) (hi : i < 5) (hj : j < 4) {q : Nat} (hq : S 39 0 = Int32.ofNat q) (hq60 : q ≤ 60) (hw0 : e3.1 0 = 4) (hw2 : e3.1 2 = Int32.ofNat i) (hw6 : e3.1 6 = Int32.ofNat j) {u : Option Value} (k : ∀ h' (_ : Int32), RC (preparedP (S, F) i e3.1).1 (preparedP (S, F) i e3.1).2 (e1, 0, e3) X h' → Q (.inl none) h') : WP (d + 2) mX1_hearPrepare 0 [some (.ref 132), some (.ref (158 + 12 * i + j)), some (.ref (hR h 1005 4)), u] [] h Q := by
  have hs := rcS hr
  have t := rd_told hr
  have ch := cho_of hr hi hj
  have hn6 : nt (e3.1 6) = j := nt_of hw6 (by omega)
  unfold preparedP at k
  rw [hn6] at k
  refine bX1_hearPrepare_0 ⟨told_K hr, st_K_158 hs hi hj, ?_⟩
  rw [ch.1, t.2.2.2.1, st_R_101_132 hs]
  refine ⟨fun c => ⟨st_K_132 hs, by decide, st_K_4 hs, ?_⟩, fun c => ?_⟩
  · rw [if_pos c] at k
    have hr2 : RC (u2 S 27 (4 * i + j) (e3.1 3)) F (e1, 0, e3) X (sI h 200 (158 + 12 * i + j) (e3.1 3)) := by
      refine rc_cho hr hi hj (fun f q hq => ne_sI (by omega)) (sI_snd _ _ _ _) (fun s q hq => u2_ne (by omega)) ?_
      unfold CHO
      simp only [hI_sI, u2]
      simpa using ⟨ch.2.1, ch.2.2.1, ch.2.2.2.1, ch.2.2.2.2.1, ch.2.2.2.2.2⟩
    have t2 := rd_told hr2
    have er : hR (sI h 200 (158 + 12 * i + j) (e3.1 3)) 1005 4 = hR h 1005 4 := rfl
    rw [er] at t2
    show WP _ _ _ [_, _, some (.int (hI (sI h 200 (158 + 12 * i + j) (e3.1 3)) 902 (hR h 1005 4))), some (.int (hI (sI h 200 (158 + 12 * i + j) (e3.1 3)) 901 (hR h 1005 4))), some (.int (hI (sI h 200 (158 + 12 * i + j) (e3.1 3)) 903 (hR h 1005 4))), _] _ (sI h 200 (158 + 12 * i + j) (e3.1 3)) _
    rw [t2.2.2.1, t2.2.1, t2.2.2.2.1]
    refine w_send hr2 (by show 0 ≤ (S 39 0).toInt; rw [hq, o_i _ (by omega)]; omega) (by show (S 39 0).toInt ≤ 60; rw [hq, o_i _ (by omega)]; omega) ?_
    intro h' a hr' hf' ha ear er' hm
    rw [KK_ret]
    obtain ⟨m0, m1, m2, m3, m4, m5, m6, m7, m8, m10, m11, m12, m13⟩ := hm
    have er5 : hR h' 1005 4 = hR h 1005 4 := by rw [er']; rfl
    have t' := rd_told hr'
    have K' := told_K hr'
    have ch' := cho_of hr' hi hj
    rw [er5] at t' K'
    refine bX1_hearPrepare_40 ⟨K', fr_K hr' hf', st_K_158 (rcS hr') hi hj, ?_⟩
    have e911 : hI h' 911 (hR h 1005 4) = e3.1 6 := t'.2.2.2.2.2.2.2.2.2.1 (by show 4 ≤ e3.1 0; rw [hw0]; decide)
    have e201 : hI (sI h' 911 a (e3.1 6)) 201 (158 + 12 * i + j) = S 28 (4 * i + j) := ch'.2.1
    have e202 : hI (sI (sI h' 911 a (e3.1 6)) 912 a (S 28 (4 * i + j))) 202 (158 + 12 * i + j) = S 29 (4 * i + j) := ch'.2.2.1
    rw [e911, e201, e202]
    refine k _ e1 ?_
    refine rc_fin (by show 0 ≤ (S 39 0).toInt; rw [hq, o_i _ (by omega)]; omega) (by show (S 39 0).toInt ≤ 60; rw [hq, o_i _ (by omega)]; omega) (rc_m913 (rc_m912 (rc_m911 hr' hf') hf'.sI) hf'.sI.sI) ha (MSGw_mk ?_ ?_ ?_ ?_ ?_ ?_ ?_ ?_ ?_ ?_ ?_ ?_ ?_ ?_) <;> simp [hI_sF, hI_sI, hF_sF, hF_sI, wu, w4, m0, m1, m2, m3, m4, m5, m6, m7, m8, m10, m11, m12, m13, hw2]
  · rw [if_neg c] at k
    exact k h e1 hr
theorem w_hearAccept (hr : RC S F (e1, 0, e3) X h) (hi : i < 5) (hj : j < 4) {q : Nat} (hq : S 39 0 = Int32.ofNat q) (hq60 : q ≤ 60) (hw0 : e3.1 0 = 6) (hw2 : e3.1 2 = Int32.ofNat i) (hw6 : e3.1 6 = Int32.ofNat j) (k : ∀ h' (_ : Int32), RC (acceptedP (S, F) i e3.1).1 (acceptedP (S, F) i e3.1).2 (e1, 0, e3) X h' → Q (.inl none) h') : WP (d + 2) mX1_hearAccept 0 [some (.ref 132), some (.ref (158 + 12 * i + j)), some (.ref (hR h 1005 4))] [] h Q := by
  have hs := rcS hr
  have t := rd_told hr
  have ch := cho_of hr hi hj
  have hn6 : nt (e3.1 6) = j := nt_of hw6 (by omega)
  unfold acceptedP at k
  rw [hn6] at k
  have e913 : hI h 913 (hR h 1005 4) = e3.1 9 := t.2.2.2.2.2.2.2.2.2.2.2.1 hw0
  refine bX1_hearAccept_0 ⟨told_K hr, st_K_158 hs hi hj, ?_⟩
  rw [ch.1, t.2.2.2.1, e913]
  refine ⟨fun c => ⟨by omega, bX2_takeOn_0 ⟨st_K_158 hs hi hj, ?_⟩⟩, fun c => ?_⟩
  · rw [← i_nlt] at c
    rw [if_neg c] at k
    rw [KK_ret]
    have hr2 : RC (u2 (u2 (u2 S 27 (4 * i + j) (e3.1 3)) 28 (4 * i + j) (e3.1 3)) 29 (4 * i + j) (e3.1 9)) F (e1, 0, e3) X (sI (sI (sI h 200 (158 + 12 * i + j) (e3.1 3)) 201 (158 + 12 * i + j) (e3.1 3)) 202 (158 + 12 * i + j) (e3.1 9)) := by
      refine rc_cho hr hi hj (fun f q hq => ?_) (by simp only [sI_snd]) (fun s q hq => ?_) ?_
      · rw [ne_sI (by omega), ne_sI (by omega), ne_sI (by omega)]
      · rw [u2_ne (by omega), u2_ne (by omega), u2_ne (by omega)]
      · unfold CHO
        simp only [hI_sI, u2]
        simpa using ⟨ch.2.2.2.1, ch.2.2.2.2.1, ch.2.2.2.2.2⟩
    have hs2 := rcS hr2
    have t2 := rd_told hr2
    have K2 := told_K hr2
    have er : hR (sI (sI (sI h 200 (158 + 12 * i + j) (e3.1 3)) 201 (158 + 12 * i + j) (e3.1 3)) 202 (158 + 12 * i + j) (e3.1 9)) 1005 4 = hR h 1005 4 := rfl
    rw [er] at t2 K2
    refine bX1_hearAccept_24 ⟨st_K_132 hs2, K2, ?_⟩
    have t23 : hI (sI (sI (sI h 200 (158 + 12 * i + j) (e3.1 3)) 201 (158 + 12 * i + j) (e3.1 3)) 202 (158 + 12 * i + j) (e3.1 9)) 903 (hR h 1005 4) = e3.1 3 := t2.2.2.2.1
    have t21 : hI (sI (sI (sI h 200 (158 + 12 * i + j) (e3.1 3)) 201 (158 + 12 * i + j) (e3.1 3)) 202 (158 + 12 * i + j) (e3.1 9)) 901 (hR h 1005 4) = e3.1 1 := t2.2.1
    have t22 : hI (sI (sI (sI h 200 (158 + 12 * i + j) (e3.1 3)) 201 (158 + 12 * i + j) (e3.1 3)) 202 (158 + 12 * i + j) (e3.1 9)) 902 (hR h 1005 4) = e3.1 2 := t2.2.2.1
    rw [st_R_101_132 hs2, t22, t21, t23]
    refine ⟨by decide, st_K_4 hs2, w_send hr2 (by show 0 ≤ (S 39 0).toInt; rw [hq, o_i _ (by omega)]; omega) (by show (S 39 0).toInt ≤ 60; rw [hq, o_i _ (by omega)]; omega) ?_⟩
    intro h' a hr' hf' ha ear er' hm
    rw [KK_ret]
    obtain ⟨m0, m1, m2, m3, m4, m5, m6, m7, m8, m10, m11, m12, m13⟩ := hm
    have er5 : hR h' 1005 4 = hR h 1005 4 := by rw [er']; rfl
    have t' := rd_told hr'
    have K' := told_K hr'
    rw [er5] at t' K'
    have e911 : hI h' 911 (hR h 1005 4) = e3.1 6 := t'.2.2.2.2.2.2.2.2.2.1 (by show 4 ≤ e3.1 0; rw [hw0]; decide)
    refine bX1_hearAccept_45 ⟨K', fr_K hr' hf', ?_⟩
    rw [e911]
    refine k _ e1 ?_
    refine rc_fin (by show 0 ≤ (S 39 0).toInt; rw [hq, o_i _ (by omega)]; omega) (by show (S 39 0).toInt ≤ 60; rw [hq, o_i _ (by omega)]; omega) (rc_m911 hr' hf') ha (MSGw_mk ?_ ?_ ?_ ?_ ?_ ?_ ?_ ?_ ?_ ?_ ?_ ?_ ?_ ?_) <;> simp [hI_sF, hI_sI, hF_sF, hF_sI, wu, w4, m0, m1, m2, m3, m4, m5, m6, m7, m8, m10, m11, m12, m13, hw2]
  · rw [← i_nlt, Classical.not_not] at c
    rw [if_pos c] at k
    exact k h e1 hr
/-- an ACCEPTED as the class takes it -/
def countsC (S : SI) (m : Nat) (w : RW) : SI :=
  let k := 4 * m + nt (w 6)
  if S 31 k = w 3 ∧ S 35 k = 1 then
    let S1 := u2 S 36 k (S 36 k ||| bitI (w 1))
    if mostI S ≤ popN (S1 36 k) then u2 S1 30 k (S 32 k) else S1
  else S
theorem w_hearAccepted (hr : RC S F (e1, 0, e3) X h) (hi : i < 5) (hj : j < 4) (hw6 : e3.1 6 = Int32.ofNat j) (hw3 : e3.1 3 ≠ -1) {f g : Nat} (hf : e3.1 1 = Int32.ofNat f) (hf5 : f < 5) (hz : S 35 (4 * i + j) = 0 ∨ S 35 (4 * i + j) = 1) (hg : S 35 (4 * i + j) = 1 → S 36 (4 * i + j) = Int32.ofNat g ∧ g < 32) (k : ∀ h', RC (countsC S i e3.1) F (e1, 0, e3) X h' → Q (.inl none) h') : WP (d + 2) mX1_hearAccepted 0 [some (.ref 132), some (.ref (158 + 12 * i + j)), some (.ref (hR h 1005 4))] [] h Q := by
  have hs := rcS hr
  have t := rd_told hr
  have ch := cho_of hr hi hj
  have hn6 : nt (e3.1 6) = j := nt_of hw6 (by omega)
  unfold countsC at k
  rw [hn6] at k
  refine bX1_hearAccepted_0 ⟨st_K_158 hs hi hj, told_K hr, ?_⟩
  rw [ch.2.2.2.2.1, t.2.2.2.1, st_R_101_132 hs, t.2.1]
  refine ⟨fun c => ?_, fun c => ?_⟩
  · rw [if_neg (fun q => c q.1)] at k
    exact k h hr
  · have c1 : S 31 (4 * i + j) = e3.1 3 := Classical.not_not.mp c
    have ch2 := ch.2.2.2.2.2 (by rw [c1]; exact hw3)
    rw [ch2.1]
    refine ⟨fun c2 => ⟨st_K_132 hs, by decide, st_K_4 hs, ?_⟩, fun c2 => ?_⟩
    · have c3 : S 35 (4 * i + j) = 1 := hz.resolve_left c2
      rw [if_pos ⟨c1, c3⟩] at k
      obtain ⟨hg1, hg2⟩ := hg c3
      have e207 : hI h 207 (158 + 12 * i + j) = S 36 (4 * i + j) := by rw [ch2.2.1, if_pos c3]
      rw [e207]
      have hr2 : RC (u2 S 36 (4 * i + j) (S 36 (4 * i + j) ||| bitI (e3.1 1))) F (e1, 0, e3) X (sI h 207 (158 + 12 * i + j) (S 36 (4 * i + j) ||| bitI (e3.1 1))) := by
        refine rc_cho hr hi hj (fun f q hq => ne_sI (by omega)) (sI_snd _ _ _ _) (fun s q hq => u2_ne (by omega)) ?_
        unfold CHO
        simp only [hI_sI, u2]
        have := ch2.2.2.1 c3
        simpa [c3] using ⟨ch.1, ch.2.1, ch.2.2.1, ch.2.2.2.1, ch.2.2.2.2.1, fun _ => ⟨ch2.1.trans c3, this⟩⟩
      have e9 : hI (sI h 207 (158 + 12 * i + j) (S 36 (4 * i + j) ||| (1 : Int32) <<< (e3.1 1 &&& 31))) 207 (158 + 12 * i + j) = S 36 (4 * i + j) ||| bitI (e3.1 1) := by rw [hI_sI, if_pos ⟨rfl, rfl⟩]; rfl
      show WP _ _ _ [_, some (.int (hI (sI h 207 (158 + 12 * i + j) (S 36 (4 * i + j) ||| (1 : Int32) <<< (e3.1 1 &&& 31))) 207 (158 + 12 * i + j)))] _ (sI h 207 (158 + 12 * i + j) (S 36 (4 * i + j) ||| bitI (e3.1 1))) _
      rw [e9]
      dsimp only at k
      rw [u2_eq] at k
      obtain ⟨n, hn, hnb⟩ := bit_or hg1 hg2 hf5
      rw [← hf] at hnb
      rw [hnb] at hr2 k ⊢
      refine w_areMost hr2 hn ?_
      rw [KK_ret]
      refine bX1_hearAccepted_45 ?_
      rw [b2i_z, decide_eq_false_iff_not]
      have em : mostI (u2 S 36 (4 * i + j) (Int32.ofNat n)) = mostI S := rfl
      rw [em]
      refine ⟨fun c4 => ?_, fun c4 => ⟨st_K_158 (rcS hr2) hi hj, ?_⟩⟩
      · rw [if_neg c4] at k
        exact k _ hr2
      · rw [if_pos (Classical.not_not.mp c4)] at k
        have e205 : hI (sI h 207 (158 + 12 * i + j) (Int32.ofNat n)) 205 (158 + 12 * i + j) = S 32 (4 * i + j) := ch2.2.2.1 c3
        rw [e205]
        refine k _ ?_
        have ch3 := cho_of hr2 hi hj
        refine rc_cho hr2 hi hj (fun f q hq => ne_sI (by omega)) (sI_snd _ _ _ _) (fun s q hq => u2_ne (by omega)) ?_
        unfold CHO
        refine ⟨ch3.1, ch3.2.1, ch3.2.2.1, ?_, ch3.2.2.2.2.1, ch3.2.2.2.2.2⟩
        rw [u2_eq, hI_sI, if_pos ⟨rfl, rfl⟩]
    · have c3 : ¬ S 35 (4 * i + j) = 1 := by rw [Classical.not_not.mp c2]; decide
      rw [if_neg (fun q => c3 q.2)] at k
      exact k h hr
end CHOT
