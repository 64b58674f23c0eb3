/-! ===== the invariant in a delivery: APPEND ===== -/
section DEL3
variable {st n na : Nat} {g g' : YG} {pa pa' : Nat → ZA} {pv pv' : Nat → ZV} {S S' : SI} {F F' : SF} {m d : Nat} {w : RW} {c : UInt32}
theorem foll_ne {r k : Nat} (h : (r ≠ 11 ∧ r ≠ 23) ∨ k ≠ m) : followS S m r k = S r k := by
  unfold followS
  rcases h with ⟨h1, h2⟩ | h
  · rw [u2_ne (Or.inl h2), u2_ne (Or.inl h1)]
  · rw [u2_ne (Or.inr h), u2_ne (Or.inr h)]
theorem inv_follow (h : INVw st n na g pa pv S F) (hm : m < n) : INVw st n na g pa pv (followS S m) F := by
  obtain ⟨⟨a1, a2, a3, s0, a4, a5⟩, hM, hC, ⟨hR1, hR2, hR3, hR4, hR5, hR6⟩, hP, hZ, hE, hH, hX, hL⟩ := id h
  have nf : ∀ r, r ≠ 11 → r ≠ 23 → followS S m r = S r := fun r q1 q2 => funext fun k => foll_ne (Or.inl ⟨q1, q2⟩)
  have d11 : followS S m 11 m = 0 := by
    unfold followS
    rw [u2_ne (by omega), u2_eq]
  have d23 : followS S m 23 m = 0 := u2_eq
  have e1 : tmS (followS S m) = tmS S := by
    funext i
    unfold tmS
    rw [nf 9 (by decide) (by decide)]
  have e2 : lgS (followS S m) = lgS S := lgS_same (nf 12 (by decide) (by decide)) (nf 14 (by decide) (by decide)) (nf 15 (by decide) (by decide)) (nf 16 (by decide) (by decide)) (nf 17 (by decide) (by decide))
  refine h.mach (fun r k q _ _ _ _ => foll_ne (Or.inl (by omega))) (fun i hi => ?_) (fun k hk => ?_) ⟨by rw [e1, e2]; exact hR1, ?_, fun i hi => ?_, fun i hi => ?_, fun i hi => ?_, hR6⟩ hE ?_ ?_
  · have hx := hM i hi
    unfold MAC at hx ⊢
    rw [nf 12 (by decide) (by decide), nf 13 (by decide) (by decide), nf 9 (by decide) (by decide), nf 5 (by decide) (by decide), nf 18 (by decide) (by decide)]
    by_cases z : i = m
    · subst z; rw [d11, d23]; exact ⟨hx.1, hx.2.1, hx.2.2.1, Or.inl rfl, Or.inl rfl, fun y => absurd y (by decide), hx.2.2.2.2.2.2⟩
    · rw [foll_ne (Or.inr z), foll_ne (Or.inr z)]; exact hx
  · rw [nf 21 (by decide) (by decide)]; exact (hC k hk).2
  · unfold RVO
    rw [e1, nf 10 (by decide) (by decide)]; exact hR2
  · unfold RCA
    by_cases z : i = m
    · subst z; rw [d11]; exact fun y => absurd y (by decide)
    · rw [foll_ne (Or.inr z), e1, e2, nf 18 (by decide) (by decide)]; exact hR3 i hi
  · unfold RLE
    by_cases z : i = m
    · subst z; rw [d11]; exact fun y => absurd y (by decide)
    · rw [foll_ne (Or.inr z), e1, e2, nf 19 (by decide) (by decide), nf 20 (by decide) (by decide), nf 21 (by decide) (by decide)]; exact hR4 i hi
  · rw [e1, e2, nf 13 (by decide) (by decide)]; exact hR5 i hi
  · rw [e1]; exact hX.same (foll_ne (Or.inl (by decide))) (nf 37 (by decide) (by decide)) rfl
  · obtain ⟨f1, f2, f3, f4, f5, f6⟩ := hL
    refine ⟨f1, f2, f3, f4, fun k hk => ?_, fun i hi => ?_⟩
    · rw [nf 21 (by decide) (by decide)]; exact f5 k hk
    · by_cases z : i = m
      · subst z; rw [d23]; exact fun y => absurd y (by decide)
      · rw [foll_ne (Or.inr z)]; exact f6 i hi
theorem iMax_o {a b : Nat} (ha : a < 1000000) (hb : b < 1000000) : iMax (Int32.ofNat a) (Int32.ofNat b) = Int32.ofNat (max a b) := by
  unfold iMax
  by_cases c : Int32.ofNat b < Int32.ofNat a
  · rw [if_pos c]
    rw [o_lt _ _ (by omega) (by omega)] at c
    congr 1; omega
  · rw [if_neg c]
    rw [o_lt _ _ (by omega) (by omega)] at c
    congr 1; omega
theorem o_inj {a b : Nat} (h : Int32.ofNat a = Int32.ofNat b) (ha : a < 2147483648) (hb : b < 2147483648) : a = b := by
  have := congrArg Int32.toInt h
  rw [o_i _ ha, o_i _ hb] at this
  omega
theorem yCI.max_ {a b t : Nat} {L : List YE} (ha : yCI n g a t L) (hb : yCI n g b t L) : yCI n g (max a b) t L := by
  by_cases c : a ≤ b
  · rw [Nat.max_eq_right c]; exact hb
  · rw [Nat.max_eq_left (by omega)]; exact ha
theorem inv_appended (hst : st < 2000) (h : INVw st n na g pa pv S F) (hm : m < n) (hw2 : w 2 = Int32.ofNat m) (hw0 : w 0 = 2) (hK : MOK n st (tmS S) g (blS S) pa pv w c) (htl : ∀ t, w 3 = Int32.ofNat t → t < 100000 → t ≤ tmS S m) : ∃ g', INVw st n na g' pa pv (appendedP (S, F) m w c).1 (appendedP (S, F) m w c).2 := by
  obtain ⟨⟨a1, a2, a3, s0, a4, a5⟩, hM, hC, ⟨hR1, hR2, hR3, hR4, hR5, hR6, hR7, hR8⟩, hP, hZ, hE, hH, hX, hL⟩ := id h
  have n5 : n ≤ 5 := by omega
  obtain ⟨kd, f, m', k0, k7, k1, kf, k2, km, kfm, kc, kA, _⟩ := hK
  have hkd : kd = 2 := o_inj (k0.symm.trans hw0) (by omega) (by omega)
  subst hkd
  have hmm : m' = m := o_inj (k2.symm.trans hw2) (by omega) (by omega)
  subst hmm
  obtain ⟨t, b1, b2, b3, _, _, b6, _⟩ := kA (by omega)
  obtain ⟨hw, p, mn, cm, q1, q2, q3, q4, q5, q6, q7, q8, q9⟩ := b6 rfl
  obtain ⟨⟨l, hl, hl30, c0, hc0, hc0l⟩, ⟨t0, ht0, ht0st⟩, _⟩ := hM m' (by omega)
  have etm : tmS S m' = t0 := nt_of ht0 (by omega)
  have ell : (lgS S m').length = l := by rw [lgS_len]; exact nt_of hl (by omega)
  have hp30 := hR7 t
  have htle := htl t b1 (by omega)
  -- an answer
  have ack : ∀ (g2 : YG) (S2 : SI) (F2 : SF) (y x : Int32) (xn : Nat), INVw st n na g2 pa pv S2 F2 → tmS S2 = tmS S → S2 9 m' = S 9 m' → x = Int32.ofNat xn → xn ≤ 30 → (y ≠ 0 → yW g2 t0 = some f ∧ xn ≤ yA g2 m' t0) → (xn = 0 ∨ (yW g2 t0 = some f ∧ xn ≤ (yL g2 t0).length)) → INVw st n na g2 pa pv (snd (S2, F2) (ackW S2 m' (w 1) y x) c).1 (snd (S2, F2) (ackW S2 m' (w 1) y x) c).2 := by
    intro g2 S2 F2 y x xn h2 et e9 hx hx30 hy hx0
    exact h2.snd0 ⟨3, m', f, rfl, by omega, rfl, hm, k1, kf, fun z => kfm z.symm, kc, fun _ => ⟨t0, e9.trans ht0, by rw [et, etm]; exact Nat.le_refl _, by omega, fun z => absurd z (by decide), fun z => absurd z (by decide), fun z => absurd z (by decide), fun _ => ⟨xn, hx, hx30, hy, hx0⟩⟩, fun z => absurd z (by decide)⟩
  unfold appendedP
  dsimp only
  by_cases clt : w 3 < S 9 m'
  · rw [if_pos clt]
    exact ⟨g, ack g S F 0 0 0 h rfl rfl rfl (by omega) (fun z => absurd rfl z) (Or.inl rfl)⟩
  · rw [if_neg clt]
    have ett : t = t0 := by
      rw [b1, ht0, o_lt _ _ (by omega) (by omega)] at clt
      omega
    subst ett
    have hF := inv_follow h hm
    have fne : ∀ r k, r ≠ 11 → r ≠ 23 → followS S m' r k = S r k := fun r k u1 u2 => foll_ne (Or.inl ⟨u1, u2⟩)
    have fl : followS S m' 12 m' = Int32.ofNat l := (fne 12 m' (by decide) (by decide)).trans hl
    have ftm : tmS (followS S m') = tmS S := by
      funext i
      unfold tmS
      rw [fne 9 i (by decide) (by decide)]
    have flg : lgS (followS S m') = lgS S := lgS_same (funext fun k => fne 12 k (by decide) (by decide)) (funext fun k => fne 14 k (by decide) (by decide)) (funext fun k => fne 15 k (by decide) (by decide)) (funext fun k => fne 16 k (by decide) (by decide)) (funext fun k => fne 17 k (by decide) (by decide))
    have etmp : tmAt (followS S m') m' (w 4) = tmL (lgS S m') p := by
      rw [q1, tm_lg fl hl30 (by omega), flg]
    split
    · rename_i cb
      have hp1 : 1 ≤ p := by
        have : ¬ w 4 = 0 := cb.1
        rw [q1] at this
        by_cases z : p = 0
        · subst z; exact absurd rfl this
        · omega
      have hx : iMin (w 4 - 1) (followS S m' 12 m') = Int32.ofNat (min (p - 1) l) := by
        rw [q1, o_sub1 _ hp1, fl, iMin_o (by omega) (by omega)]
      exact ⟨g, ack g (followS S m') F 0 _ (min (p - 1) l) hF ftm (fne 9 m' (by decide) (by decide)) hx (by omega) (fun z => absurd rfl z) (Or.inr ⟨hw, by omega⟩)⟩
    · rename_i cb
      have hnp : nt (w 4) = p := nt_of q1 (by omega)
      have hnm : nt (w 8) = mn := nt_of q2 (by omega)
      rw [hnp, hnm]
      have okL : ∀ e, e ∈ lgS (followS S m') m' → e.1 = Int32.ofNat (yT e) := fun e he => by
        rw [flg] at he
        exact (hR6 _ e (lg_in hR1 hm he)).1
      have goodL : yD g (lgS (followS S m') m') := by rw [flg]; exact hR1.1.1 m' hm
      have goodG : yD g (yL g t) := hR1.1.2.1 t
      have hpre : (yL g t).take p <+: lgS (followS S m') m' := by
        rw [flg]
        by_cases z : p = 0
        · subst z; rw [List.take_zero]; exact List.nil_prefix
        · have nz : ¬ w 4 = 0 := by
            rw [q1]
            intro y
            have := o_inj (b := 0) y (by omega) (by omega)
            exact z this
          have em : tmAt (followS S m') m' (w 4) = w 5 := Classical.byContradiction fun y => cb ⟨nz, y⟩
          rw [etmp, q5] at em
          obtain ⟨p', rfl⟩ : ∃ p', p = p' + 1 := ⟨p - 1, by omega⟩
          have hlt : p' < (yL g t).length := by omega
          have hge : (yL g t)[p']? = some (yL g t)[p'] := List.getElem?_eq_getElem hlt
          rw [tmL_some hge] at em
          obtain ⟨o1, o2⟩ := hR6 t _ (List.mem_of_getElem? hge)
          have hlt2 : p' < (lgS S m').length := by
            apply Classical.byContradiction
            intro y
            rw [tmL_none (by omega), o1] at em
            have hb := hR1.2.1.2.1 t _ (List.mem_of_getElem? hge)
            have := o_inj (a := 0) em (by omega) (by omega)
            omega
          have hge2 : (lgS S m')[p']? = some (lgS S m')[p'] := List.getElem?_eq_getElem hlt2
          rw [tmL_some hge2] at em
          have et : yT (lgS S m')[p'] = yT (yL g t)[p'] := by
            unfold yT
            rw [em]
          rw [← (hR1.1.1 m' hm).match_ goodG hge2 hge et]
          exact List.take_prefix _ _
      obtain ⟨⟨l', hl', hl30'⟩, hN⟩ := puts_new (mn := mn) (w := w) goodL goodG fl hl30 q4 hp30 q6 (fun e he => hR6 t e he) okL hpre mn (Nat.le_refl _)
      rw [flg] at hN
      generalize hS2 : putsS m' p w mn (followS S m') = S2 at *
      have pne : ∀ r k, r ≠ 12 → r ≠ 14 → r ≠ 15 → r ≠ 16 → r ≠ 17 → S2 r k = followS S m' r k := by
        intro r k u1 u2 u3 u4 u5
        rw [← hS2]
        exact putsS_ne ⟨u1, u2, u3, u4, u5⟩ mn k
      have plg : ∀ i, i < 5 → i ≠ m' → lgS S2 i = lgS S i := by
        intro i hi hne
        rw [← hS2]
        obtain ⟨⟨li, y1, y2, _⟩, _⟩ := hM i hi
        rw [lgS_puts_ne (by omega) hne (by rw [fne 12 i (by decide) (by decide), nt_of y1 (by omega)]; exact y2), flg]
      have p12 : ∀ i, i ≠ m' → S2 12 i = S 12 i := by
        intro i hne
        rw [← hS2]
        exact (puts_other (mn := mn) (r := 14) (by omega) hne (by omega) mn (Nat.le_refl _)).1.trans (fne 12 i (by decide) (by decide))
      have e13 : iMax (iMin (w 6) (w 4 + w 8)) (S2 13 m') = Int32.ofNat (max (min cm (p + mn)) c0) := by
        rw [q7, q1, q2, o_add, iMin_o (by omega) (by omega), pne 13 m' (by decide) (by decide) (by decide) (by decide) (by decide), fne 13 m' (by decide) (by decide), hc0, iMax_o (by omega) (by omega)]
      rw [e13]
      generalize hS3 : u2 (u2 S2 13 m' (Int32.ofNat (max (min cm (p + mn)) c0))) 25 m' (w 1) = S3
      have ne3 : ∀ r k, (r ≠ 13 ∧ r ≠ 25) ∨ k ≠ m' → S3 r k = S2 r k := by
        intro r k hk
        rw [← hS3]
        rcases hk with ⟨u1, u2⟩ | hk
        · rw [u2_ne (Or.inl u2), u2_ne (Or.inl u1)]
        · rw [u2_ne (Or.inr hk), u2_ne (Or.inr hk)]
      have d13 : S3 13 m' = Int32.ofNat (max (min cm (p + mn)) c0) := by
        rw [← hS3, u2_ne (by omega), u2_eq]
      have ne : ∀ r k, r ≠ 11 → r ≠ 23 → r ≠ 12 → r ≠ 14 → r ≠ 15 → r ≠ 16 → r ≠ 17 → (r ≠ 13 ∧ r ≠ 25) ∨ k ≠ m' → S3 r k = S r k := fun r k u1 u2 u3 u4 u5 u6 u7 u8 => ((ne3 r k u8).trans (pne r k u3 u4 u5 u6 u7)).trans (fne r k u1 u2)
      have nf : ∀ r, r ≠ 11 → r ≠ 23 → r ≠ 12 → r ≠ 14 → r ≠ 15 → r ≠ 16 → r ≠ 17 → r ≠ 13 → r ≠ 25 → S3 r = S r := fun r u1 u2 u3 u4 u5 u6 u7 u8 u9 => funext fun k => ne r k u1 u2 u3 u4 u5 u6 u7 (Or.inl ⟨u8, u9⟩)
      have n11 : ∀ r i, (r = 11 ∨ r = 23) → S3 r i = followS S m' r i := fun r i hr => (ne3 r i (Or.inl (by omega))).trans (pne r i (by omega) (by omega) (by omega) (by omega) (by omega))
      have e1 : tmS S3 = tmS S := by
        funext i
        unfold tmS
        rw [nf 9 (by decide) (by decide) (by decide) (by decide) (by decide) (by decide) (by decide) (by decide) (by decide)]
      have e2 : lgS S3 = lgS S2 := lgS_same (funext fun k => ne3 12 k (by omega)) (funext fun k => ne3 14 k (by omega)) (funext fun k => ne3 15 k (by omega)) (funext fun k => ne3 16 k (by omega)) (funext fun k => ne3 17 k (by omega))
      have elg : ∀ i, i < n → lgS S3 i = yup (lgS S) m' (lgS S2 m') i := by
        intro i hi
        rw [e2]
        by_cases z : i = m'
        · subst z; rw [yup_eq]
        · rw [yup_ne z]; exact plg i (by omega) z
      have x : yX (tmS S) (tmS S) g (yTake g m' (tmS S m') (p + mn)) := yX_take rfl
      rw [etm] at x
      have hIt := yI_take (L' := lgS S2 m') (l := p + mn) hR1 hm (by rw [etm]; exact hw) (fun z => kfm z.symm) (by rw [etm]; exact q4) (by rw [etm]; exact hN)
      rw [etm] at hIt
      have hci0 := hR5 m' hm
      rw [nt_of hc0 (by omega)] at hci0
      have hci1 := yCI.take (L' := lgS S2 m') (l := p + mn) hR1 hci0 (by rw [etm]; exact hw) (by rw [etm]; exact q4) (by rw [etm]; exact hN)
      have hci2 := yCI.hear (a := m') (L' := lgS S2 m') (l := p + mn) hR1 (by rw [etm]; exact q9) (by rw [etm]; exact hw) (by rw [etm]; exact q4) (by rw [etm]; exact hN)
      have hci := hci2.max_ hci1
      rw [etm] at hci
      have hle := hci.le
      rw [lgS_len, nt_of hl' (by omega)] at hle
      have hI3 : INVw st n na (yTake g m' t (p + mn)) pa pv S3 (u2 F 26 m' (FP.fadd (F 7 m') (F 2 0))) := by
        refine h.mach (fun r k q u1 u2 u3 u4 => ne r k (by omega) (by omega) (by omega) (by omega) (by omega) (by omega) (by omega) (by omega)) (fun i hi => ?_) (fun k hk => ?_) ⟨by rw [e1]; exact yI_lg hIt elg, ?_, fun i hi => ?_, fun i hi => ?_, fun i hi => ?_, hR6, hR7, hR8⟩ hE ?_ ?_
        · have hx := hM i hi
          have hf := hF.2.1 i hi
          unfold MAC at hx hf ⊢
          rw [nf 9 (by decide) (by decide) (by decide) (by decide) (by decide) (by decide) (by decide) (by decide) (by decide), nf 5 (by decide) (by decide) (by decide) (by decide) (by decide) (by decide) (by decide) (by decide) (by decide), nf 18 (by decide) (by decide) (by decide) (by decide) (by decide) (by decide) (by decide) (by decide) (by decide), n11 11 i (by omega), n11 23 i (by omega)]
          refine ⟨?_, hx.2.1, hx.2.2.1, hf.2.2.2.1, hf.2.2.2.2.1, hf.2.2.2.2.2.1, hx.2.2.2.2.2.2⟩
          by_cases z : i = m'
          · subst z
            rw [d13, ne3 12 i (by omega)]
            exact ⟨l', hl', hl30', _, rfl, hle⟩
          · rw [ne3 12 i (by omega), p12 i z, ne3 13 i (Or.inr z), pne 13 i (by decide) (by decide) (by decide) (by decide) (by decide), fne 13 i (by decide) (by decide)]
            exact hx.1
        · rw [nf 21 (by decide) (by decide) (by decide) (by decide) (by decide) (by decide) (by decide) (by decide) (by decide)]; exact (hC k hk).2
        · unfold RVO
          rw [e1, nf 10 (by decide) (by decide) (by decide) (by decide) (by decide) (by decide) (by decide) (by decide) (by decide)]
          exact hR2
        · unfold RCA
          rw [n11 11 i (by omega), e1, nf 18 (by decide) (by decide) (by decide) (by decide) (by decide) (by decide) (by decide) (by decide) (by decide), elg i hi]
          by_cases z : i = m'
          · subst z
            have : followS S i 11 i = 0 := by
              unfold followS
              rw [u2_ne (by omega), u2_eq]
            rw [this]
            exact fun y => absurd y (by decide)
          · rw [foll_ne (Or.inr z), yup_ne z]; exact hR3 i hi
        · unfold RLE
          rw [n11 11 i (by omega), e1, elg i hi, nf 19 (by decide) (by decide) (by decide) (by decide) (by decide) (by decide) (by decide) (by decide) (by decide), nf 20 (by decide) (by decide) (by decide) (by decide) (by decide) (by decide) (by decide) (by decide) (by decide), nf 21 (by decide) (by decide) (by decide) (by decide) (by decide) (by decide) (by decide) (by decide) (by decide)]
          by_cases z : i = m'
          · subst z
            have : followS S i 11 i = 0 := by
              unfold followS
              rw [u2_ne (by omega), u2_eq]
            rw [this]
            exact fun y => absurd y (by decide)
          · rw [foll_ne (Or.inr z), yup_ne z]
            intro hi2
            obtain ⟨y1, y2, y3, y4⟩ := hR4 i hi hi2
            refine ⟨y1, y2, fun o ho => ?_, y4⟩
            obtain ⟨s, z1, z2, z3, z4⟩ := y3 o ho
            exact ⟨s, z1, z2, z3, fun u1 u2 => Nat.le_trans (z4 u1 u2) (x.2.2.2.1 _ _)⟩
        · rw [e1, elg i hi]
          by_cases z : i = m'
          · subst z
            rw [yup_eq, d13, nt_of rfl (by omega), etm]
            exact hci
          · rw [yup_ne z, ne3 13 i (Or.inr z), pne 13 i (by decide) (by decide) (by decide) (by decide) (by decide), fne 13 i (by decide) (by decide)]
            exact (hR5 i hi).mono x (Nat.le_refl _) (List.prefix_refl _)
        · rw [e1]
          have h1 : MSX (MOK n st (tmS S) g (blS S) pa pv) S3 (u2 F 26 m' (FP.fadd (F 7 m') (F 2 0))) := hX.same (ne 39 0 (by decide) (by decide) (by decide) (by decide) (by decide) (by decide) (by decide) (by omega)) (nf 37 (by decide) (by decide) (by decide) (by decide) (by decide) (by decide) (by decide) (by decide) (by decide)) rfl
          exact h1.ghost (Nat.le_refl _) x (fun _ _ => zX.refl)
        · obtain ⟨f1, f2, f3, f4, f5, f6⟩ := hL
          refine ⟨f1, f2, f3, f4, fun k hk => ?_, fun i hi => ?_⟩
          · rw [nf 21 (by decide) (by decide) (by decide) (by decide) (by decide) (by decide) (by decide) (by decide) (by decide)]; exact f5 k hk
          · rw [n11 23 i (by omega)]
            exact hF.2.2.2.2.2.2.2.2.2.2.2.2.2.2 i hi
      refine ⟨yTake g m' t (p + mn), ack _ S3 _ 1 (w 4 + w 8) (p + mn) hI3 e1 (ne 9 m' (by decide) (by decide) (by decide) (by decide) (by decide) (by decide) (by decide) (by omega)) (by rw [q1, q2, o_add]) (by omega) (fun _ => ⟨hw, ?_⟩) (Or.inr ⟨hw, q4⟩)⟩
      show p + mn ≤ u2 (yA g) m' t (max (yA g m' t) (p + mn)) m' t
      rw [u2_eq]
      omega
end DEL3
