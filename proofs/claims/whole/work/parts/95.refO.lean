/-! ===== the reference: isInOrder ===== -/
def tbS (M : SI) (T : Nat → Int32) : SI := fun s k => if s = 48 then T k else M s k
section REFX
variable {S : SI} {F : SF} {e : EX} {M : SI} {G : SF} {c : Nat × Nat × Nat × (Nat → Int32)} {h : HP} {d : Nat} {Q : Out → HP → Prop} {na s a w : Nat} {T : Nat → Int32}
theorem tbS_u {x : Nat} {v : Int32} : u2 (tbS M T) 48 x v = tbS M (fun k => if k = x then v else T k) := by
  funext s k
  show (if s = 48 ∧ k = x then v else if s = 48 then T k else M s k) = if s = 48 then (if k = x then v else T k) else M s k
  by_cases c1 : s = 48
  · rw [if_pos c1, if_pos c1]
    by_cases c2 : k = x
    · rw [if_pos ⟨c1, c2⟩, if_pos c2]
    · rw [if_neg (fun z => c2 z.2), if_neg c2]
  · rw [if_neg (fun z => c1 z.1), if_neg c1, if_neg c1]
theorem x_may_5 {p : Nat} (hr : RC S F e (M, G, c) h) (hM : M 1000 0 = 0) (ha : M 47 0 = Int32.ofNat na) (ha14 : na ≤ 14) (han : a < na) (k : Q (.inl (some (.int (b2i (mayB M p a na))))) h) :
    ∀ (t j : Nat), j + t = na → WP d mX12_mayCome 5 [some (.ref 210), some (.int (Int32.ofNat p)), some (.int (Int32.ofNat a)), some (.int (b2i (mayB M p a j))), some (.int (Int32.ofNat j))] [] h Q := by
  intro t
  induction t with
  | zero =>
    intro j hj
    obtain rfl : j = na := by omega
    refine bX12_mayCome_5 ⟨q0 hr hM, ?_⟩
    rw [qI_47 hr hM, ha, o_le _ _ (by omega) (by omega)]
    exact ⟨fun _ => ⟨isZ_b2i, k⟩, fun w => absurd (Nat.le_refl _) w⟩
  | succ t ih =>
    intro j hj
    have nx := ih (j + 1) (by omega)
    rw [mayB_s] at nx
    refine bX12_mayCome_5 ⟨q0 hr hM, ?_⟩
    rw [qI_47 hr hM, ha, o_le _ _ (by omega) (by omega), o_bit1 p j (by omega)]
    simp (disch := omega) only [q0 hr hM, qR_46 hr hM, qK_46 hr hM, qi_46 hr hM, qA_46 hr hM, qR_45 hr hM, qK_45 hr hM, qi_45 hr hM, qA_45 hr hM, o_c, o_add, o_addn, o_nadd, o_muln, o_le, o_lt, o_nle, o_len, o_nlt, o_ltn, o_eq, o_eqn, o_neq, o_sub1, true_and]
    refine ⟨fun w => by omega, fun _ => ⟨fun b => ?_, fun b => ⟨fun b1 => ?_, fun b1 => ⟨fun b2 => ?_, fun b2 => ⟨fun b3 => ?_, fun b3 => ?_⟩⟩⟩⟩⟩
    · rw [b2i_z] at b
      rw [b, Bool.false_and] at nx
      exact nx
    all_goals
      rw [b2i_z] at b
      have b' : mayB M p a j = true := by
        cases z : mayB M p a j
        · exact absurd z b
        · rfl
      rw [b', Bool.true_and] at nx
    · rw [b1, Bool.true_or, Bool.true_or] at nx
      exact nx
    · rw [decide_eq_true b2, Bool.or_true, Bool.true_or] at nx
      exact nx
    · have b1' : p.testBit j = false := by
        cases z : p.testBit j
        · rfl
        · exact absurd z b1
      rw [b1', decide_eq_false b2, decide_eq_true b3] at nx
      exact nx
    · rw [decide_eq_false b3, Bool.not_false, Bool.or_true] at nx
      exact nx
theorem x_mayCome {p : Nat} (hr : RC S F e (M, G, c) h) (hM : M 1000 0 = 0) (ha : M 47 0 = Int32.ofNat na) (ha14 : na ≤ 14) (han : a < na) {u3 u4 : Option Value} (k : Q (.inl (some (.int (b2i (mayB M p a na))))) h) : WP d mX12_mayCome 0 [some (.ref 210), some (.int (Int32.ofNat p)), some (.int (Int32.ofNat a)), u3, u4] [] h Q :=
  bX12_mayCome_0 (x_may_5 hr hM ha ha14 han k na 0 (Nat.zero_add _))
/-- what is read of tbS -/
theorem mayB_tbS {p : Nat} : ∀ n, mayB (tbS M T) p a n = mayB M p a n := by
  intro n
  induction n with
  | zero => rfl
  | succ n ih =>
    rw [mayB_s, mayB_s, ih]
    rfl
/-- at a set s: none below holds all that must be there -/
abbrev NB (M : SI) (na s : Nat) : Prop := ∀ p v, p < s → Rch M na p v → ¬ mustB M na p
theorem x_ord (hM : M 1000 0 = 0) (ha : M 47 0 = Int32.ofNat na) (ha14 : na ≤ 14) (k : ∀ (b : Bool) (T : Nat → Int32) (h' : HP), (b = true ↔ ordR M na) → RC S F e (tbS M T, G, c) h' → Q (.inl (some (.int (b2i b)))) h') :
    (∀ (rs : Nat) (s : Nat) (T : Nat → Int32) (h : HP) (u4 u5 u6 u7 : Option Value), s + rs = 2 ^ na → RC S F e (tbS M T, G, c) h → TI M na T s 0 0 → NB M na s → WP (d + 1) mX12_isInOrder 81 [some (.ref 210), some (.int (Int32.ofNat (2 ^ na))), some (.int (mustI M na)), some (.int (Int32.ofNat s)), u4, u5, u6, u7] [] h Q) := by
  have p14 : 2 ^ na ≤ 2 ^ 14 := Nat.pow_le_pow_right (by omega) ha14
  have e14 : 2 ^ 14 = 16384 := rfl
  intro rs
  induction rs with
  | zero =>
    intro s T h u4 u5 u6 u7 hs hr ti nb
    obtain rfl : s = 2 ^ na := by omega
    refine bX12_isInOrder_81 ⟨fun _ => ?_, fun w => absurd (Int32.le_refl _) w⟩
    refine k false T h ⟨fun w => absurd w (by decide), fun w => ?_⟩ hr
    obtain ⟨p, v, hr1, hm⟩ := w
    obtain ⟨L, hL⟩ := hr1
    exact absurd hm (nb p v (path_lt hL).1 ⟨L, hL⟩)
  | succ rs ihs =>
    intro s T h u4 u5 u6 u7 hs hr ti nb
    have s16 : s < 16384 := by omega
    -- the acts
    have acts : NB M na (s + 1) → ∀ (ra a : Nat) (T : Nat → Int32) (h : HP) (u5 u6 u7 : Option Value), a + ra = na → RC S F e (tbS M T, G, c) h → TI M na T s a 0 → WP (d + 1) mX12_isInOrder 107 [some (.ref 210), some (.int (Int32.ofNat (2 ^ na))), some (.int (mustI M na)), some (.int (Int32.ofNat s)), some (.int (Int32.ofNat a)), u5, u6, u7] [] h Q := by
      intro nb2 ra
      induction ra with
      | zero =>
        intro a T h u5 u6 u7 haa hr ti
        obtain rfl : a = na := by omega
        have hM' : tbS M T 1000 0 = 0 := hM
        have e47 : hI h 1247 210 = Int32.ofNat a := (qI_47 hr hM').trans ha
        refine bX12_isInOrder_107 ⟨q0 hr hM', ?_⟩
        rw [e47, o_le _ _ (by omega) (by omega), o_addn]
        exact ⟨fun _ => ihs (s + 1) T h _ _ _ _ (by omega) hr (TI_next ti (Nat.le_refl _)) nb2, fun w => absurd (Nat.le_refl _) w⟩
      | succ ra iha =>
        intro a T h u5 u6 u7 haa hr ti
        have hM' : tbS M T 1000 0 = 0 := hM
        have e47 : hI h 1247 210 = Int32.ofNat na := (qI_47 hr hM').trans ha
        have han : a < na := by omega
        have han' : a < 14 := by omega
        refine bX12_isInOrder_107 ⟨q0 hr hM', ?_⟩
        have f48 : tbS M T 48 = T := rfl
        rw [e47, o_le _ _ (by omega) (by omega), o_addn, o_addn, o_bit0 s a (by omega)]
        simp (disch := omega) only [q0 hr hM', qR_48 hr hM', qK_48 hr hM', qi_48 hr hM', qA_48 hr hM', f48, o_c, o_add, o_addn, o_nadd, o_muln, o_le, o_lt, o_nle, o_len, o_nlt, o_ltn, o_eq, o_eqn, o_neq, o_sub1, true_and]
        refine ⟨fun w => by omega, fun _ => ⟨fun z => ?_, fun z => ⟨fun b => ?_, fun b => ⟨by decide, ?_⟩⟩⟩⟩
        · exact ihs (s + 1) T h _ _ _ _ (by omega) hr (TI_empty ti z) nb2
        · exact iha (a + 1) T h _ _ _ (by omega) hr (TI_skipA ti (fun w' st => b st.2.1))
        · have bf : s.testBit a = false := Classical.not_not.mp b
          refine x_mayCome hr hM' ha ha14 han ?_
          rw [KK_ret, mayB_tbS]
          cases hm : mayB M s a na
          · refine bX12_isInOrder_141 ⟨fun _ => ?_, fun w => absurd rfl w⟩
            rw [o_addn]
            exact iha (a + 1) T h _ _ _ (by omega) hr (TI_skipA ti (fun w' st => absurd (hm.symm.trans st.2.2.1) (by decide)))
          · refine bX12_isInOrder_141 ⟨fun w => absurd w (by decide), fun _ => ?_⟩
            rw [o_shl a (by omega), o_or]
            -- the values
            have bl : s ||| 2 ^ a < 16384 := Nat.lt_of_lt_of_le (bit_lt (show s < 2 ^ na by omega) han) (by omega)
            have vals : ∀ (rw' w : Nat) (T : Nat → Int32) (h : HP) (u7 : Option Value), w + rw' = 15 → RC S F e (tbS M T, G, c) h → TI M na T s a w → WP (d + 1) mX12_isInOrder 155 [some (.ref 210), some (.int (Int32.ofNat (2 ^ na))), some (.int (mustI M na)), some (.int (Int32.ofNat s)), some (.int (Int32.ofNat a)), some (.int (Int32.ofNat (s ||| 2 ^ a))), some (.int (Int32.ofNat w)), u7] [] h Q := by
              intro rw'
              induction rw' with
              | zero =>
                intro w T h u7 hww hr ti
                obtain rfl : w = 15 := by omega
                refine bX12_isInOrder_155 ⟨fun _ => ?_, fun w => absurd (by decide) w⟩
                rw [o_addn]
                exact iha (a + 1) T h _ _ _ (by omega) hr (TI_doneA ti)
              | succ rw' ihw =>
                intro w T h u7 hww hr ti
                have hM' : tbS M T 1000 0 = 0 := hM
                have f48 : tbS M T 48 = T := rfl
                have f44 : tbS M T 44 = M 44 := rfl
                have f41 : tbS M T 41 = M 41 := rfl
                have mid : WP (d + 1) mX12_isInOrder 180 [some (.ref 210), some (.int (Int32.ofNat (2 ^ na))), some (.int (mustI M na)), some (.int (Int32.ofNat s)), some (.int (Int32.ofNat a)), some (.int (Int32.ofNat (s ||| 2 ^ a))), some (.int (Int32.ofNat w)), u7] [.int (valW M w)] h Q := by
                  refine bX12_isInOrder_180 ?_
                  have rA := fun v => rm_48 (s ||| 2 ^ a) v hr
                  simp only [tbS_u] at rA
                  simp (disch := omega) only [q0 hr hM', qR_48 hr hM', qK_48 hr hM', qi_48 hr hM', qA_48 hr hM', qR_41 hr hM', qK_41 hr hM', qi_41 hr hM', qA_41 hr hM', qR_44 hr hM', qK_44 hr hM', qi_44 hr hM', qA_44 hr hM', f48, f41, f44, tb_bit1 (x := T s) (show w < 32 by omega), o_c, o_add, o_addn, o_nadd, o_muln, o_le, o_lt, o_nle, o_len, o_nlt, o_ltn, o_eq, o_eqn, o_neq, o_sub1, true_and]
                  rw [o_shl w (by omega), o_shl a (by omega)]
                  refine ⟨fun z => ?_, fun z => ⟨fun g => ⟨fun y => absurd y g, fun _ => ?_⟩, fun g => ⟨fun y => ?_, fun y => ⟨fun _ => ?_, fun y2 => absurd (Classical.not_not.mp g) y2⟩⟩⟩⟩
                  · exact ihw (w + 1) T h _ (by omega) hr (TI_skipW ti (fun t _ => z t))
                  · have zt := Classical.not_not.mp z
                    have st : stpO M na s w a := ⟨han, bf, hm, fun q => absurd q g⟩
                    exact ihw (w + 1) _ _ _ (by omega) (rA _) (TI_upd ti (by omega) ha14 (by omega) zt st (if_neg g).symm)
                  · exact ihw (w + 1) T h _ (by omega) hr (TI_skipW ti (fun _ st => y (st.2.2.2 (Classical.not_not.mp g))))
                  · have zt := Classical.not_not.mp z
                    have g' := Classical.not_not.mp g
                    have st : stpO M na s w a := ⟨han, bf, hm, fun _ => Classical.not_not.mp y⟩
                    exact ihw (w + 1) _ _ _ (by omega) (rA _) (TI_upd ti (by omega) ha14 (by omega) zt st (if_pos g').symm)
                refine bX12_isInOrder_155 ⟨fun z => ?_, fun _ => ⟨fun z => ⟨q0 hr hM', ?_⟩, fun z => ?_⟩⟩
                · rw [o_nle _ _ (by decide) (by omega)] at z
                  have z' : 15 ≤ w := z
                  omega
                · have w14 : ¬ w = 14 := by
                    rw [o_eqn _ _ (by decide) (by omega)] at z
                    exact z
                  have wl : w < 14 := by omega
                  have ev : valW M w = M 44 w := if_neg w14
                  rw [ev] at mid
                  simp (disch := omega) only [q0 hr hM', qR_44 hr hM', qK_44 hr hM', qi_44 hr hM', qA_44 hr hM', f44, o_c, o_add, o_addn, o_nadd, o_muln, o_le, o_lt, o_nle, o_len, o_nlt, o_ltn, o_eq, o_eqn, o_neq, o_sub1, true_and]
                  exact mid
                · have w14 : w = 14 := by
                    rw [o_eqn _ _ (by decide) (by omega)] at z
                    exact Classical.not_not.mp z
                  have ev : valW M w = 0 := if_pos w14
                  rw [ev] at mid
                  exact mid
            exact vals 15 0 T h _ rfl hr ti
    have hM' : tbS M T 1000 0 = 0 := hM
    have f48 : tbS M T 48 = T := rfl
    refine bX12_isInOrder_81 ?_
    rw [must_iff ha14]
    simp (disch := omega) only [q0 hr hM', qR_48 hr hM', qK_48 hr hM', qi_48 hr hM', qA_48 hr hM', f48, o_c, o_add, o_addn, o_nadd, o_muln, o_le, o_lt, o_nle, o_len, o_nlt, o_ltn, o_eq, o_eqn, o_neq, o_sub1, true_and]
    refine ⟨fun w => by omega, fun _ => ⟨fun z => ?_, fun z => ⟨fun m => ?_, fun m => ?_⟩⟩⟩
    · refine acts ?_ na 0 T h _ _ _ (Nat.zero_add _) hr ti
      intro p v hp hv
      by_cases q : p = s
      · subst q
        obtain ⟨L, hL⟩ := hv
        have := TI_all ti hL (Nat.le_refl _)
        rw [z, tb_0] at this
        exact absurd this (by decide)
      · exact nb p v (by omega) hv
    · refine acts ?_ na 0 T h _ _ _ (Nat.zero_add _) hr ti
      intro p v hp hv
      by_cases q : p = s
      · subst q; exact m
      · exact nb p v (by omega) hv
    · obtain ⟨i, hi, hb⟩ := tb_ne0 z
      exact k true T h ⟨fun _ => ⟨s, i, (ti.1 s i (by omega) hi hb).2, Classical.not_not.mp m⟩, fun _ => rfl⟩ hr
theorem x_ord_52 (hM : M 1000 0 = 0) (ha : M 47 0 = Int32.ofNat na) (ha14 : na ≤ 14) {u4 u5 u6 u7 : Option Value} (k : ∀ (b : Bool) (T : Nat → Int32) (h' : HP), (b = true ↔ ordR M na) → RC S F e (tbS M T, G, c) h' → Q (.inl (some (.int (b2i b)))) h') :
    ∀ (t j : Nat) (h : HP), j + t = 2 ^ na → RC S F e (tbS M (fun x => if x < j then 0 else M 48 x), G, c) h → WP (d + 1) mX12_isInOrder 52 [some (.ref 210), some (.int (Int32.ofNat (2 ^ na))), some (.int (mustI M na)), some (.int (Int32.ofNat j)), u4, u5, u6, u7] [] h Q := by
  have p14 : 2 ^ na ≤ 2 ^ 14 := Nat.pow_le_pow_right (by omega) ha14
  have e14 : 2 ^ 14 = 16384 := rfl
  have ppos : 0 < 2 ^ na := Nat.two_pow_pos na
  intro t
  induction t with
  | zero =>
    intro j h hj hr
    obtain rfl : j = 2 ^ na := by omega
    have hM' : tbS M (fun x => if x < 2 ^ na then 0 else M 48 x) 1000 0 = 0 := hM
    have i0 : inA h 251 (0 : Int32) = true := qi_48 hr hM' (i := 0) (by omega)
    have n0 : (0 : Int32).toNatClampNeg = 0 := rfl
    have r := rm_48 0 (16384 : Int32) hr
    rw [tbS_u] at r
    refine bX12_isInOrder_52 ⟨fun _ => ?_, fun w => absurd (Int32.le_refl _) w⟩
    simp (disch := omega) only [q0 hr hM', qR_48 hr hM', qK_48 hr hM', qi_48 hr hM', qA_48 hr hM', i0, n0, true_and]
    refine x_ord hM ha ha14 k (2 ^ na) 0 _ _ _ _ _ _ (Nat.zero_add _) r (TI_0 rfl ?_) ?_
    · intro x hx hx2
      show (if x = 0 then (16384 : Int32) else if x < 2 ^ na then 0 else M 48 x) = 0
      rw [if_neg (by omega), if_pos hx2]
    · intro p v hp
      omega
  | succ t ih =>
    intro j h hj hr
    have hM' : tbS M (fun x => if x < j then 0 else M 48 x) 1000 0 = 0 := hM
    have r := rm_48 j 0 hr
    rw [tbS_u] at r
    have eT : (fun k => if k = j then (0 : Int32) else (fun x => if x < j then 0 else M 48 x) k) = (fun x => if x < j + 1 then 0 else M 48 x) := by
      funext x
      show (if x = j then (0 : Int32) else if x < j then 0 else M 48 x) = if x < j + 1 then 0 else M 48 x
      by_cases c1 : x = j
      · rw [if_pos c1, if_pos (by omega)]
      · rw [if_neg c1]
        by_cases c2 : x < j
        · rw [if_pos c2, if_pos (by omega)]
        · rw [if_neg c2, if_neg (by omega)]
    rw [eT] at r
    refine bX12_isInOrder_52 ?_
    simp (disch := omega) only [q0 hr hM', qR_48 hr hM', qK_48 hr hM', qi_48 hr hM', qA_48 hr hM', o_c, o_add, o_addn, o_nadd, o_muln, o_le, o_lt, o_nle, o_len, o_nlt, o_ltn, o_eq, o_eqn, o_neq, o_sub1, true_and]
    exact ⟨fun w => by omega, fun _ => ih (j + 1) _ (by omega) r⟩
theorem x_ord_16 (hM : M 1000 0 = 0) (ha : M 47 0 = Int32.ofNat na) (ha14 : na ≤ 14) (hr : RC S F e (M, G, c) h) {u4 u5 u6 u7 : Option Value} (k : ∀ (b : Bool) (T : Nat → Int32) (h' : HP), (b = true ↔ ordR M na) → RC S F e (tbS M T, G, c) h' → Q (.inl (some (.int (b2i b)))) h') :
    ∀ (t j : Nat), j + t = na → WP (d + 1) mX12_isInOrder 16 [some (.ref 210), some (.int (Int32.ofNat (2 ^ na))), some (.int (mustI M j)), some (.int (Int32.ofNat j)), u4, u5, u6, u7] [] h Q := by
  intro t
  induction t with
  | zero =>
    intro j hj
    obtain rfl : j = na := by omega
    refine bX12_isInOrder_16 ⟨q0 hr hM, ?_⟩
    rw [qI_47 hr hM, ha, o_le _ _ (by omega) (by omega)]
    refine ⟨fun _ => ?_, fun w => absurd (Nat.le_refl _) w⟩
    have eT : tbS M (fun x => if x < 0 then 0 else M 48 x) = M := by
      funext s k
      show (if s = 48 then (if k < 0 then 0 else M 48 k) else M s k) = M s k
      by_cases c1 : s = 48
      · rw [if_pos c1, if_neg (by omega), c1]
      · rw [if_neg c1]
    exact x_ord_52 hM ha ha14 k (2 ^ j) 0 h (Nat.zero_add _) (by rw [eT]; exact hr)
  | succ t ih =>
    intro j hj
    have nx := ih (j + 1) (by omega)
    rw [mustI_s] at nx
    refine bX12_isInOrder_16 ⟨q0 hr hM, ?_⟩
    rw [qI_47 hr hM, ha, o_le _ _ (by omega) (by omega)]
    simp (disch := omega) only [q0 hr hM, qR_46 hr hM, qK_46 hr hM, qi_46 hr hM, qA_46 hr hM, o_c, o_add, o_addn, o_nadd, o_muln, o_le, o_lt, o_nle, o_len, o_nlt, o_ltn, o_eq, o_eqn, o_neq, o_sub1, true_and]
    refine ⟨fun w => by omega, fun _ => ⟨fun b => ?_, fun b => ?_⟩⟩
    · rw [if_neg b] at nx; exact nx
    · rw [if_pos (Classical.not_not.mp b)] at nx; exact nx
theorem x_isInOrder (hr : RC S F e (M, G, c) h) (hM : M 1000 0 = 0) (ha : M 47 0 = Int32.ofNat na) (ha14 : na ≤ 14) {u1 u2' u3 u4 u5 u6 u7 : Option Value} (k : ∀ (b : Bool) (T : Nat → Int32) (h' : HP), (b = true ↔ ordR (u2 M 50 0 0) na) → RC S F e (tbS (u2 M 50 0 0) T, G, c) h' → Q (.inl (some (.int (b2i b)))) h') : WP (d + 1) mX12_isInOrder 0 [some (.ref 210), u1, u2', u3, u4, u5, u6, u7] [] h Q := by
  have r := rm_50 0 hr
  have hM1 : u2 M 50 0 0 1000 0 = 0 := hM
  refine bX12_isInOrder_0 ⟨q0 hr hM, ?_⟩
  have e47 : hI (sI h 1250 210 0) 1247 210 = Int32.ofNat na := (qI_47 (M := u2 M 50 0 0) r hM1).trans ha
  rw [e47, o_shl _ (by omega)]
  exact x_ord_16 (M := u2 M 50 0 0) hM1 ha ha14 r k na 0 (Nat.zero_add _)
end REFX
