/-! ===== hearing leaves the far fields ===== -/
section HIH
variable {P : PT} {S : SI} {m s k : Nat} {w : RW} {c : UInt32} {st n na : Nat} {g : YG} {pa : Nat → ZA} {pv : Nat → ZV} {F : SF}
theorem hi_snd (hs : 48 ≤ s) : (snd P w c).1 s k = P.1 s k := snd_ne (by omega) (by omega) (by omega) k
theorem hi_asked (hs : 48 ≤ s) : (askedP P m w).1 s k = P.1 s k := by
  unfold askedP
  rw [hi_snd hs]
  dsimp only
  split
  · exact u2_ne (by omega)
  · rfl
theorem hi_voted (hs : 48 ≤ s) : votedS S m w s k = S s k := by
  unfold votedS
  split
  · rfl
  · split
    · unfold startS
      dsimp only
      rw [if_neg (by omega), if_neg (by omega), if_neg (by omega), if_neg (by omega), if_neg (by omega)]
      exact u2_ne (by omega)
    · exact u2_ne (by omega)
theorem hi_follow (hs : 48 ≤ s) : followS S m s k = S s k := by
  unfold followS
  rw [u2_ne (by omega), u2_ne (by omega)]
theorem hi_appended (hs : 48 ≤ s) : (appendedP P m w c).1 s k = P.1 s k := by
  unfold appendedP
  split
  · exact hi_snd hs
  · dsimp only
    split
    · rw [hi_snd hs]; exact hi_follow hs
    · rw [hi_snd hs]
      show u2 (u2 (putsS m (nt (w 4)) w (nt (w 8)) (followS P.1 m)) 13 m _) 25 m _ s k = _
      rw [u2_ne (by omega), u2_ne (by omega), putsS_ne (by omega)]
      exact hi_follow hs
theorem hi_same (hs : 48 ≤ s) : sameS S m w s k = S s k := by
  unfold sameS
  split
  · rw [u2_ne (by omega), u2_ne (by omega)]
  · rfl
theorem hi_commit (hs : 48 ≤ s) : commitS S m s k = S s k := by
  unfold commitS
  split
  · rw [u2_ne (by omega)]
  · rfl
theorem hi_lease (hs : 48 ≤ s) : (leaseP P m).1 s k = P.1 s k := by
  unfold leaseP
  split
  · exact u2_ne (by omega)
  · rfl
theorem hi_acked (hs : 48 ≤ s) : (ackedP P m w c).1 s k = P.1 s k := by
  unfold ackedP
  split
  · rfl
  · split
    · exact u2_ne (by omega)
    · rw [hi_lease hs]
      unfold clockP
      show u2 (commitS (sameS P.1 m w) m) 21 _ 1 s k = _
      rw [u2_ne (by omega), hi_commit hs, hi_same hs]
theorem hi_prepared (hs : 48 ≤ s) : (preparedP P m w).1 s k = P.1 s k := by
  unfold preparedP
  dsimp only
  split
  · rw [hi_snd hs]; exact u2_ne (by omega)
  · rfl
theorem hi_tell {q : Nat} (hs : 48 ≤ s) : tellS S q w s k = S s k := by
  unfold tellS
  split
  · rw [u2_ne (by omega), u2_ne (by omega), u2_ne (by omega)]
  · exact u2_ne (by omega)
theorem hi_promised (hs : 48 ≤ s) : (promisedP P m w).1 s k = P.1 s k := by
  unfold promisedP
  dsimp only
  split
  · rfl
  · split
    · exact hi_tell hs
    · rw [toAll_ne (by omega) (by omega) (by omega)]
      unfold goOnS
      rw [u2_ne (by omega), u2_ne (by omega), u2_ne (by omega), u2_ne (by omega)]
      exact hi_tell hs
theorem hi_accepted (hs : 48 ≤ s) : (acceptedP P m w).1 s k = P.1 s k := by
  unfold acceptedP
  dsimp only
  split
  · rfl
  · rw [hi_snd hs]
    show u2 (u2 (u2 P.1 27 _ _) 28 _ _) 29 _ _ s k = _
    rw [u2_ne (by omega), u2_ne (by omega), u2_ne (by omega)]
theorem hi_counts (hs : 48 ≤ s) : countsS S m w s k = S s k := by
  unfold countsS
  dsimp only
  split
  · split
    · rw [u2_ne (by omega), u2_ne (by omega)]
    · exact u2_ne (by omega)
  · rfl
theorem hi_hearK (hs : 48 ≤ s) : (hearK P m w c).1 s k = P.1 s k := by
  unfold hearK
  split
  · exact hi_asked hs
  · split
    · exact hi_voted hs
    · split
      · exact hi_appended hs
      · split
        · exact hi_acked hs
        · split
          · exact hi_prepared hs
          · split
            · exact hi_promised hs
            · split
              · exact hi_accepted hs
              · exact hi_counts hs
theorem hi_lrn {p : Nat} (hs : 50 ≤ s) : (lrnP P p).1 s k = P.1 s k := by
  have e : leaveS (takeS (u2 P.1 40 0 0) p) p s k = P.1 s k := by
    rw [leaveS_ne (by omega) (by omega)]
    unfold takeS
    rw [if_neg (by omega), u2_ne (by omega)]
  unfold lrnP
  split
  · show learnS _ _ _ s k = _
    rw [learnS_ne (by omega)]
    exact e
  · exact e
/-- all that is asked of a delivery -/
theorem hear_pack (hst : st < 1000) (h : INV st n na g pa pv S F) {p q : Nat} (hq : S 39 0 = Int32.ofNat q) (hq60 : q ≤ 60) (hp : p < q) :
    (∃ g' pa' pv', INVw (st + 1) n na g' pa' pv' (hearK (lrnP (stepS S, F) p) (nt (S 37 (24 * p + 2))) (fun j => S 37 (24 * p + j)) (F 38 p)).1 (hearK (lrnP (stepS S, F) p) (nt (S 37 (24 * p + 2))) (fun j => S 37 (24 * p + j)) (F 38 p)).2) ∧
    hearC (delS (stepS S) p, leaveF (stepS S) F p) (nt (S 37 (24 * p + 2))) (fun j => S 37 (24 * p + j)) (F 38 p) = hearK (lrnP (stepS S, F) p) (nt (S 37 (24 * p + 2))) (fun j => S 37 (24 * p + j)) (F 38 p) ∧
    HRK (delS (stepS S) p) (leaveF (stepS S) F p) (fun j => S 37 (24 * p + j)) (F 38 p) ∧
    ∃ m f kd, S 37 (24 * p + 2) = Int32.ofNat m ∧ S 37 (24 * p + 1) = Int32.ofNat f ∧ S 37 (24 * p) = Int32.ofNat kd ∧ m < 5 ∧ f < 5 ∧ kd ≤ 7 ∧ HYK (lrnP (stepS S, F) p).1 (lrnP (stepS S, F) p).2 m n kd (fun j => S 37 (24 * p + j)) (F 38 p) := by
  have hn := h.1.2.1
  obtain ⟨m, f, kd, a1, a2, a3, a4, a5, a6, a7, a8, a9, b1⟩ := heard_ hst h hq hq60 hp
  have em : nt (S 37 (24 * p + 2)) = m := nt_of a1 (by omega)
  rw [em]
  exact ⟨a7, a8, a9, m, f, kd, a1, a3, a5, by omega, by omega, a6, b1⟩
theorem INVw.endh (h : INVw st n na g pa pv S F) : ENDH S n na := by
  have hn := h.1.2.1
  refine ⟨h.1.1, by omega, h.1.2.2.1, h.2.2.2.2.2.2.2.1.1.1, h.2.2.2.2.2.2.2.1.1.2.1, fun i hi => ?_⟩
  obtain ⟨l, b1, b2, c, b3, b4⟩ := (h.2.1 i (by omega)).1
  exact ⟨c, b3, by omega⟩
/-- the class's delivery is the reference's -/
theorem deliv_eq (hst : st < 1000) (h : INV st n na g pa pv S F) {p q : Nat} (hq : S 39 0 = Int32.ofNat q) (hq60 : q ≤ 60) (hp : p < q) : delivC (stepS S, F) p n na = delivP (stepS S, F) p ∧ ∃ g' pa' pv', INV (st + 1) n na g' pa' pv' (delivP (stepS S, F) p).1 (delivP (stepS S, F) p).2 := by
  obtain ⟨⟨g', pa', pv', iw⟩, e, _, _⟩ := hear_pack hst h hq hq60 hp
  constructor
  · rw [delivP_K]
    show (ansA na n (hearC (delS (stepS S) p, leaveF (stepS S) F p) (nt (S 37 (24 * p + 2))) (fun j => S 37 (24 * p + j)) (F 38 p)).1, (hearC (delS (stepS S) p, leaveF (stepS S) F p) (nt (S 37 (24 * p + 2))) (fun j => S 37 (24 * p + j)) (F 38 p)).2) = _
    rw [e, ans_ends iw (by omega)]
    rfl
  · exact ⟨g', pa', pv', iw.ends (by omega)⟩
theorem hi_deliv {p : Nat} (hs : 50 ≤ s) : (delivP P p).1 s k = P.1 s k := by
  rw [delivP_K]
  show endsS _ s k = _
  unfold endsS
  rw [if_neg (by omega), hi_hearK (by omega), hi_lrn hs]
end HIH
