/-! ===== calls of the class: isAgreed, isInOrder ===== -/
/-- whether no decision of the first j is known unlike -/
def decsW (S : SI) (i k : Nat) : Nat → Bool
  | 0 => true
  | j + 1 => decsW S i k j && (decide (S 30 (4 * i + j) = -1) || decide (S 30 (4 * k + j) = -1) || decide (S 30 (4 * i + j) = S 30 (4 * k + j)))
theorem decsW_mono {S : SI} {i k j n : Nat} (h : decsW S i k j = false) (hn : j ≤ n) : decsW S i k n = false := by
  induction n with
  | zero =>
    have : j = 0 := by omega
    subst this; exact h
  | succ n ih =>
    by_cases q : j = n + 1
    · subst q; exact h
    · unfold decsW
      rw [ih (by omega)]; rfl
def agrW (S : SI) (i k : Nat) : Bool := decsW S i k 4 && likeU S i k (min (nt (S 13 i)) (nt (S 13 k)))
/-- machine one and the first j others -/
def agr1 (S : SI) (i : Nat) : Nat → Bool
  | 0 => true
  | j + 1 => agr1 S i j && agrW S i j
def agrA (S : SI) : Nat → Bool
  | 0 => true
  | i + 1 => agrA S i && agr1 S i i
theorem iMin_o {a b : Nat} (ha : a < 1000000) (hb : b < 1000000) : iMin (Int32.ofNat a) (Int32.ofNat b) = Int32.ofNat (min a b) := by
  unfold iMin
  by_cases c : Int32.ofNat a < Int32.ofNat b
  · rw [if_pos c]
    rw [o_lt _ _ (by omega) (by omega)] at c
    congr 1; omega
  · rw [if_neg c]
    rw [o_lt _ _ (by omega) (by omega)] at c
    congr 1; omega
section QHF
variable {S S' : SI} {F : SF} {e : EX} {X : MX} {h h' : HP} {d : Nat} {Q : Out → HP → Prop} {e1 : Int32} {e3 : RW × UInt32} {n a b : Nat}
theorem w_agreesWith (hr : RC S F e X h) {i k l c l2 c2 : Nat} (hi : i < 5) (hk : k < 5) (h1 : S 12 i = Int32.ofNat l) (h2 : l ≤ 30) (h3 : S 13 i = Int32.ofNat c) (h4 : c ≤ l) (h5 : S 12 k = Int32.ofNat l2) (h6 : l2 ≤ 30) (h7 : S 13 k = Int32.ofNat c2) (h8 : c2 ≤ l2) (kk : Q (.inl (some (.int (b2i (agrW S i k))))) h) :
    ∀ (m j : Nat) (u v : Option Value), j + m = 4 → decsW S i k j = true → WP (d + 3) mX8_agreesWith 2 [some (.ref (150 + 12 * i)), some (.ref (150 + 12 * k)), some (.int (Int32.ofNat j)), u, v] [] h Q := by
  have hs := rcS hr
  intro m
  induction m with
  | zero =>
    intro j u v hj hd
    obtain rfl : j = 4 := by omega
    refine bX8_agreesWith_2 ⟨fun _ => ⟨st_K_150 hs hi, st_K_150 hs hk, ?_⟩, fun c => absurd (by decide) c⟩
    rw [st_R_801_150 hs hi, st_R_801_150 hs hk, rd_commit hr hi, rd_commit hr hk, iMin_sw]
    refine ⟨by omega, st_K_151 hs hi, bX7_isLikeUpTo_0 ⟨st_K_151 hs hi, st_K_151 hs hk, ?_⟩⟩
    rw [rd_len hr hi, rd_len hr hk, iMin_sw, iMin_sw, h1, h5, h3, h7, iMin_o (by omega) (by omega), iMin_o (by omega) (by omega), iMin_o (by omega) (by omega)]
    have hB : min (min c c2) (min l l2) = min c c2 := by omega
    rw [hB]
    refine w_isLikeUpTo_19 hs (rcL hr) hi hk (by rw [h1, o_i _ (by omega)]; omega) (by rw [h5, o_i _ (by omega)]; omega) (B := min c c2) (by rw [o_i _ (by omega)]) (by rw [h1, o_i _ (by omega)]; omega) (by rw [h5, o_i _ (by omega)]; omega) ?_ (min c c2) 0 (Nat.zero_add _) rfl
    rw [KK_ret]
    refine bX8_agreesWith_75 ⟨isZ_b2i, ?_⟩
    unfold agrW at kk
    rw [hd, h3, h7, nt_of rfl (by omega), nt_of rfl (by omega)] at kk
    exact kk
  | succ m ih =>
    intro j u v hj hd
    have hj4 : j < 4 := by omega
    have ch1 := cho_of hr hi hj4
    have ch2 := cho_of hr hk hj4
    have nx : decsW S i k (j + 1) = (decide (S 30 (4 * i + j) = -1) || decide (S 30 (4 * k + j) = -1) || decide (S 30 (4 * i + j) = S 30 (4 * k + j))) := by
      show (decsW S i k j && _) = _
      rw [hd]; rfl
    refine bX8_agreesWith_2 ?_
    rw [o_nle _ _ (by decide) (by omega), o_c _ (by omega), st_R_803_150 hs hi, st_R_803_150 hs hk, st_K_157 hs hi, st_K_157 hs hk, st_AR_157_e hs hi hj4, st_AR_157_e hs hk hj4, ch1.2.2.2.1, ch2.2.2.2.1, o_addn]
    refine ⟨fun c => by omega, fun _ => ⟨st_K_150 hs hi, ⟨by decide, by decide⟩, inA_o (st_L_157 hs hi) (by omega) (by decide), st_K_158 hs hi hj4, st_K_150 hs hk, ⟨by decide, by decide⟩, inA_o (st_L_157 hs hk) (by omega) (by decide), st_K_158 hs hk hj4, fun c1 => ?_, fun c1 => ⟨fun c2 => ?_, fun c2 => ⟨fun c3 => ?_, fun c3 => ?_⟩⟩⟩⟩
    · exact ih (j + 1) _ _ (by omega) (by rw [nx]; simp [c1])
    · exact ih (j + 1) _ _ (by omega) (by rw [nx]; simp [c2])
    · exact ih (j + 1) _ _ (by omega) (by rw [nx]; simp [c3])
    · have hf : decsW S i k (j + 1) = false := by rw [nx]; simp [c1, c2, c3]
      have hf4 := decsW_mono hf (show j + 1 ≤ 4 by omega)
      unfold agrW at kk
      rw [hf4] at kk
      exact kk
theorem agr1_mono {i j n : Nat} (h : agr1 S i j = false) (hn : j ≤ n) : agr1 S i n = false := by
  induction n with
  | zero =>
    have : j = 0 := by omega
    subst this; exact h
  | succ n ih =>
    by_cases q : j = n + 1
    · subst q; exact h
    · unfold agr1
      rw [ih (by omega)]; rfl
theorem agrA_mono {j n : Nat} (h : agrA S j = false) (hn : j ≤ n) : agrA S n = false := by
  induction n with
  | zero =>
    have : j = 0 := by omega
    subst this; exact h
  | succ n ih =>
    by_cases q : j = n + 1
    · subst q; exact h
    · unfold agrA
      rw [ih (by omega)]; rfl
theorem w_isAgreed_15 (hr : RC S F e X h) (hn : S 0 0 = Int32.ofNat n) (hn5 : n ≤ 5) (hl : ∀ m, m < n → ∃ l c, S 12 m = Int32.ofNat l ∧ l ≤ 30 ∧ S 13 m = Int32.ofNat c ∧ c ≤ l) {i : Nat} (hi : i < n) (kf : agr1 S i i = false → Q (.inl (some (.int 0))) h) (kt : agr1 S i i = true → WP (d + 4) mX11_isAgreed 2 [some (.ref 2), some (.int (Int32.ofNat (i + 1))), some (.int (Int32.ofNat i))] [] h Q) :
    ∀ (m j : Nat), j + m = i → agr1 S i j = true → WP (d + 4) mX11_isAgreed 15 [some (.ref 2), some (.int (Int32.ofNat i)), some (.int (Int32.ofNat j))] [] h Q := by
  have hs := rcS hr
  intro m
  induction m with
  | zero =>
    intro j hj ha
    obtain rfl : j = i := by omega
    refine bX11_isAgreed_15 ?_
    rw [o_le _ _ (by omega) (by omega), o_addn]
    exact ⟨fun _ => kt ha, fun c => absurd (Nat.le_refl _) c⟩
  | succ m ih =>
    intro j hj ha
    obtain ⟨l, c, h1, h2, h3, h4⟩ := hl i hi
    obtain ⟨l2, c2, h5, h6, h7, h8⟩ := hl j (by omega)
    refine bX11_isAgreed_15 ?_
    rw [o_le _ _ (by omega) (by omega), st_R_1100_2 hs, o_c _ (by omega), o_c _ (by omega), st_AR_3_e hs (by omega), st_AR_3_e hs (by omega), st_K_3 hs]
    refine ⟨fun c => by omega, fun _ => ⟨st_K_2 hs, ⟨by decide, by decide⟩, inA_o (st_L_3 hs) (by omega) (by decide), inA_o (st_L_3 hs) (by omega) (by decide), by omega, st_K_150 hs (by omega), bX8_agreesWith_0 (w_agreesWith hr (by omega) (by omega) h1 h2 h3 h4 h5 h6 h7 h8 ?_ 4 0 _ _ rfl rfl)⟩⟩
    rw [KK_ret]
    refine bX11_isAgreed_35 ?_
    rw [b2i_z, o_addn]
    have nx : agr1 S i (j + 1) = agrW S i j := by
      show (agr1 S i j && agrW S i j) = _
      rw [ha]; rfl
    refine ⟨fun c => ih (j + 1) (by omega) (by rw [nx]; simpa using c), fun c => kf (agr1_mono (j := j + 1) (by rw [nx]; exact Classical.not_not.mp c) (by omega))⟩
theorem w_isAgreed_2 (hr : RC S F e X h) (hn : S 0 0 = Int32.ofNat n) (hn5 : n ≤ 5) (hl : ∀ m, m < n → ∃ l c, S 12 m = Int32.ofNat l ∧ l ≤ 30 ∧ S 13 m = Int32.ofNat c ∧ c ≤ l) (k : Q (.inl (some (.int (b2i (agrA S n))))) h) :
    ∀ (m i : Nat) (u : Option Value), i + m = n → agrA S i = true → WP (d + 4) mX11_isAgreed 2 [some (.ref 2), some (.int (Int32.ofNat i)), u] [] h Q := by
  have hs := rcS hr
  intro m
  induction m with
  | zero =>
    intro i u hi ha
    obtain rfl : i = n := by omega
    refine bX11_isAgreed_2 ⟨st_K_2 hs, ?_⟩
    rw [st_R_1101_2 hs, rd_n hr, hn, o_le _ _ (by omega) (by omega)]
    rw [ha] at k
    exact ⟨st_K_4 hs, fun _ => k, fun c => absurd (Nat.le_refl _) c⟩
  | succ m ih =>
    intro i u hi ha
    refine bX11_isAgreed_2 ⟨st_K_2 hs, ?_⟩
    rw [st_R_1101_2 hs, rd_n hr, hn, o_le _ _ (by omega) (by omega)]
    have nx : agrA S (i + 1) = agr1 S i i := by
      show (agrA S i && agr1 S i i) = _
      rw [ha]; rfl
    refine ⟨st_K_4 hs, fun c => by omega, fun _ => w_isAgreed_15 hr hn hn5 hl (by omega) (fun c => ?_) (fun c => ih (i + 1) _ (by omega) (by rw [nx]; exact c)) i 0 (Nat.zero_add _) rfl⟩
    rw [agrA_mono (j := i + 1) (by rw [nx]; exact c) (show i + 1 ≤ n by omega)] at k
    exact k
theorem c_isAgreed (hr : RC S F e X h) (hn : S 0 0 = Int32.ofNat n) (hn5 : n ≤ 5) (hl : ∀ m, m < n → ∃ l c, S 12 m = Int32.ofNat l ∧ l ≤ 30 ∧ S 13 m = Int32.ofNat c ∧ c ≤ l) {u v : Option Value} (k : Q (.inl (some (.int (b2i (agrA S n))))) h) : WP (d + 4) mX11_isAgreed 0 [some (.ref 2), u, v] [] h Q :=
  bX11_isAgreed_0 (w_isAgreed_2 hr hn hn5 hl k n 0 _ (Nat.zero_add _) rfl)
/-- answered ahead of a step -/
def aheadB (S : SI) (a : Nat) (s : Int32) : Bool := decide (S 46 a ≠ -1 ∧ S 46 a < s)
/-- a write that can come between two reads -/
def fitB (S : SI) (a : Nat) (r s : Int32) : Bool := decide (S 41 a = 1 ∧ S 45 a < s) && !(aheadB S a r)
/-- the writes due ahead of a step, among the first j -/
def dueS (S : SI) (s : Int32) : Nat → Int32
  | 0 => 0
  | j + 1 => if S 41 j = 1 ∧ aheadB S j s = true then dueS S s j ||| bitI (Int32.ofNat j) else dueS S s j
/-- the writes that can come between the same two reads ahead of act a, among the first j -/
def aofS (S : SI) (a : Nat) (r s : Int32) : Nat → Int32
  | 0 => 0
  | j + 1 => if fitB S j r s = true ∧ aheadB S a (S 45 j) = false then aofS S a r s j ||| bitI (Int32.ofNat j) else aofS S a r s j
theorem w_ahead (hr : RC S F e X h) {na : Nat} (ha : S 47 0 = Int32.ofNat na) (ha14 : na ≤ 14) {a : Nat} (han : a < na) {s : Int32} (k : Q (.inl (some (.int (b2i (aheadB S a s))))) h) : WP d mX0_isAnsweredAhead 0 [some (.ref (136 + a)), some (.int s)] [] h Q := by
  have hs := rcS hr
  have rd := rd_act hr ha ha14 han
  refine bX0_isAnsweredAhead_0 ⟨st_K_136 hs (by omega), ?_⟩
  rw [rd.2.2.2.2]
  unfold aheadB at k
  refine ⟨fun c => ?_, fun c => ⟨fun c2 => ?_, fun c2 => ?_⟩⟩
  · rw [decide_eq_false (fun w => w.1 c)] at k; exact k
  · rw [decide_eq_false (fun w => by rw [← i_nlt] at c2; exact c2 w.2)] at k; exact k
  · rw [← i_nlt, Classical.not_not] at c2
    rw [decide_eq_true ⟨c, c2⟩] at k; exact k
theorem w_fits (hr : RC S F e X h) {na : Nat} (ha : S 47 0 = Int32.ofNat na) (ha14 : na ≤ 14) (hz : ∀ a, a < na → S 41 a = 0 ∨ S 41 a = 1) {a : Nat} (han : a < na) {r s : Int32} (k : Q (.inl (some (.int (b2i (fitB S a r s))))) h) : WP (d + 1) mX0_fitsBetween 0 [some (.ref (136 + a)), some (.int r), some (.int s)] [] h Q := by
  have hs := rcS hr
  have rd := rd_act hr ha ha14 han
  refine bX0_fitsBetween_0 ⟨st_K_136 hs (by omega), ?_⟩
  rw [rd.1, rd.2.2.2.1]
  unfold fitB at k
  refine ⟨fun c => ?_, fun c => ⟨fun c2 => ?_, fun c2 => ⟨by omega, w_ahead hr ha ha14 han ?_⟩⟩⟩
  · rw [decide_eq_false (fun w => by rw [c] at w; exact absurd w.1 (by decide))] at k; exact k
  · rw [decide_eq_false (fun w => by rw [← i_nlt] at c2; exact c2 w.2)] at k; exact k
  · rw [← i_nlt, Classical.not_not] at c2
    rw [decide_eq_true ⟨(hz a han).resolve_left c, c2⟩] at k
    rw [KK_ret]
    refine bX0_fitsBetween_20 ?_
    rw [b2i_z]
    refine ⟨fun c3 => ?_, fun c3 => ?_⟩
    · rw [show aheadB S a r = true by simpa using c3] at k; exact k
    · rw [Classical.not_not.mp c3] at k; exact k
theorem w_due (hr : RC S F e X h) {na : Nat} (ha : S 47 0 = Int32.ofNat na) (ha14 : na ≤ 14) (hz : ∀ a, a < na → S 41 a = 0 ∨ S 41 a = 1) {s : Int32} (k : Q (.inl (some (.int (dueS S s na)))) h) :
    ∀ (m j : Nat), j + m = na → WP (d + 1) mX4_writesDueAhead 4 [some (.ref 133), some (.int s), some (.int (dueS S s j)), some (.int (Int32.ofNat j))] [] h Q := by
  have hs := rcS hr
  intro m
  induction m with
  | zero =>
    intro j hj
    obtain rfl : j = na := by omega
    refine bX4_writesDueAhead_4 ⟨st_K_133 hs, ?_⟩
    rw [rd_acts hr, ha, o_le _ _ (by omega) (by omega)]
    exact ⟨fun _ => k, fun c => absurd (Nat.le_refl _) c⟩
  | succ m ih =>
    intro j hj
    have rd := rd_act hr ha ha14 (a := j) (by omega)
    have nx := ih (j + 1) (by omega)
    unfold dueS at nx
    refine bX4_writesDueAhead_4 ⟨st_K_133 hs, ?_⟩
    rw [rd_acts hr, ha, o_le _ _ (by omega) (by omega), st_R_400_133 hs, o_c _ (by omega), st_AR_134_e hs (by omega), st_K_134 hs, rd.1, o_addn]
    refine ⟨fun c => by omega, fun _ => ⟨⟨by decide, by decide⟩, inA_o (st_L_134 hs) (by omega) (by decide), st_K_136 hs (by omega), fun c => ?_, fun c => ⟨by omega, w_ahead hr ha ha14 (by omega) ?_⟩⟩⟩
    · rw [if_neg (fun w => by rw [c] at w; exact absurd w.1 (by decide))] at nx; exact nx
    · rw [KK_ret]
      refine bX4_writesDueAhead_34 ?_
      rw [b2i_z, o_addn]
      have c1 : S 41 j = 1 := (hz j (by omega)).resolve_left c
      refine ⟨fun c2 => ?_, fun c2 => ?_⟩
      · rw [if_neg (fun w => by rw [c2] at w; exact absurd w.2 (by decide))] at nx; exact nx
      · rw [if_pos ⟨c1, by simpa using c2⟩] at nx; exact nx
theorem w_aof (hr : RC S F e X h) {na : Nat} (ha : S 47 0 = Int32.ofNat na) (ha14 : na ≤ 14) (hz : ∀ a, a < na → S 41 a = 0 ∨ S 41 a = 1) {a : Nat} (han : a < na) {r s : Int32} (k : Q (.inl (some (.int (aofS S a r s na)))) h) :
    ∀ (m j : Nat), j + m = na → WP (d + 2) mX4_writesAheadOf 6 [some (.ref 133), some (.ref (136 + a)), some (.int r), some (.int s), some (.int (aofS S a r s j)), some (.int (Int32.ofNat j))] [] h Q := by
  have hs := rcS hr
  intro m
  induction m with
  | zero =>
    intro j hj
    obtain rfl : j = na := by omega
    refine bX4_writesAheadOf_6 ⟨st_K_133 hs, ?_⟩
    rw [rd_acts hr, ha, o_le _ _ (by omega) (by omega)]
    exact ⟨fun _ => k, fun c => absurd (Nat.le_refl _) c⟩
  | succ m ih =>
    intro j hj
    have rd := rd_act hr ha ha14 (a := j) (by omega)
    have nx := ih (j + 1) (by omega)
    unfold aofS at nx
    refine bX4_writesAheadOf_6 ⟨st_K_133 hs, ?_⟩
    rw [rd_acts hr, ha, o_le _ _ (by omega) (by omega), st_R_400_133 hs, o_c _ (by omega), st_AR_134_e hs (by omega), st_K_134 hs]
    refine ⟨fun c => by omega, fun _ => ⟨⟨by decide, by decide⟩, inA_o (st_L_134 hs) (by omega) (by decide), by omega, st_K_136 hs (by omega), w_fits hr ha ha14 hz (by omega) ?_⟩⟩
    rw [KK_ret]
    refine bX4_writesAheadOf_27 ?_
    rw [b2i_z, o_addn, st_R_400_133 hs, o_c _ (by omega), st_AR_134_e hs (by omega), st_K_134 hs, rd.2.2.2.1]
    refine ⟨fun c => ?_, fun c => ⟨st_K_133 hs, ⟨by decide, by decide⟩, inA_o (st_L_134 hs) (by omega) (by decide), st_K_136 hs (by omega), by omega, st_K_136 hs (by omega), w_ahead hr ha ha14 han ?_⟩⟩
    · rw [if_neg (fun w => by rw [c] at w; exact absurd w.1 (by decide))] at nx; exact nx
    · rw [KK_ret]
      refine bX4_writesAheadOf_44 ?_
      rw [b2i_z, o_addn]
      refine ⟨fun c2 => ?_, fun c2 => ?_⟩
      · rw [if_neg (fun w => c2 w.2)] at nx; exact nx
      · rw [if_pos ⟨by simpa using c, Classical.not_not.mp c2⟩] at nx; exact nx
end QHF
