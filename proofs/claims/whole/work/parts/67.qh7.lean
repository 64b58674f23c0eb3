/-! ===== calls of the class: isInOrder ===== -/
def anyF (f : Nat → Bool) : Nat → Nat → Bool
  | _, 0 => false
  | j, m + 1 => f j || anyF f (j + 1) m
theorem anyF_succ (f : Nat → Bool) (j m : Nat) : anyF f j (m + 1) = (f j || anyF f (j + 1) m) := rfl
/-- whether act i can feed read r, and the rest then -/
def feedI (S : SI) (na : Nat) (fb : Int32 → Int32 → Int32 → Bool) (r : Nat) (ah fe pl : Int32) (i : Nat) : Bool := decide (S 44 i = S 44 r) && fitB S i ah (S 45 r) && decide (((fe >>> (Int32.ofNat i &&& 31)) &&& 1) = 0) && (decide (dueS S (S 45 r) na &&& ((pl ||| aofS S i ah (S 45 r) na) ^^^ (-1)) = 0) && fb (S 44 r) (fe ||| bitI (Int32.ofNat i)) (pl ||| aofS S i ah (S 45 r) na))
/-- whether the reads rs can be fed, as the class tries it -/
def feedB (S : SI) (na : Nat) : List Nat → Int32 → Int32 → Int32 → Int32 → Bool
  | [], _, _, _, _ => true
  | r :: rs, ah, v, fe, pl => (decide (v = S 44 r ∧ dueS S (S 45 r) na &&& (pl ^^^ (-1)) = 0) && feedB S na rs (S 45 r) v fe pl) || anyF (feedI S na (fun a b c => feedB S na rs (S 45 r) a b c) r ah fe pl) 0 na
def ordB (S : SI) (na : Nat) : Bool := feedB S na (rds (S 41) na) 0 0 0 0
theorem rds_lt {f : Nat → Int32} {n a : Nat} (h : a ∈ rds f n) : a < n := by
  induction n with
  | zero => exact absurd h (by unfold rds; exact List.not_mem_nil)
  | succ n ih =>
    unfold rds at h
    split at h
    · have := ih h; omega
    · rw [List.mem_append] at h
      rcases h with h | h
      · have := ih h; omega
      · have : a = n := by simpa using h
        omega
section QHG
variable {S S' : SI} {F : SF} {e : EX} {X : MX} {h h' : HP} {d : Nat} {Q : Out → HP → Prop} {e1 : Int32} {e3 : RW × UInt32} {n a b na : Nat}
theorem rd_reads (hr : RC S F e X h) (ha : S 47 0 = Int32.ofNat na) (ha14 : na ≤ 14) : hI h 404 133 = Int32.ofNat (rds (S 41) na).length ∧ ∀ r a, (rds (S 41) na)[r]? = some a → hAR h 135 r = 136 + a := by
  have hh := rcH hr
  have e : (S 47 0).toNatClampNeg = na := by rw [ha]; exact nclamp (by omega)
  have h3 := hh.2.2.1
  have h4 := hh.2.2.2.1
  rw [e] at h3 h4
  exact ⟨h3, h4⟩
/-- the step of the read ahead of number t -/
def ahd (S : SI) (L : List Nat) (t : Nat) : Int32 := if t = 0 then 0 else S 45 ((L[t - 1]?).getD 0)
theorem w_feed_88 (hr : RC S F e X h) (ha : S 47 0 = Int32.ofNat na) (ha14 : na ≤ 14) (hz : ∀ a, a < na → S 41 a = 0 ∨ S 41 a = 1) {D : Nat} {rs : List Nat} {r t : Nat} (hrn : r < na) (ht : t ≤ 14) {ah v fe pl : Int32}
    (rcc : ∀ (v fe pl : Int32) (Q : Out → HP → Prop), Q (.inl (some (.int (b2i (feedB S na rs (S 45 r) v fe pl))))) h → WP (D + 2) mX4_canFeed 0 [some (.ref 133), some (.int (Int32.ofNat (t + 1))), some (.int v), some (.int fe), some (.int pl), none, none, none, none, none, none, none] [] h Q)
    (k : Q (.inl (some (.int (b2i (anyF (feedI S na (fun a b c => feedB S na rs (S 45 r) a b c) r ah fe pl) 0 na))))) h) :
    ∀ (m j : Nat) (u9 u10 u11 : Option Value), j + m = na → anyF (feedI S na (fun a b c => feedB S na rs (S 45 r) a b c) r ah fe pl) 0 na = anyF (feedI S na (fun a b c => feedB S na rs (S 45 r) a b c) r ah fe pl) j m → WP (D + 3) mX4_canFeed 88 [some (.ref 133), some (.int (Int32.ofNat t)), some (.int v), some (.int fe), some (.int pl), some (.ref (136 + r)), some (.int ah), some (.int (dueS S (S 45 r) na)), some (.int (Int32.ofNat j)), u9, u10, u11] [] h Q := by
  have hs := rcS hr
  have rdr := rd_act hr ha ha14 hrn
  intro m
  induction m with
  | zero =>
    intro j u9 u10 u11 hj he
    obtain rfl : j = na := by omega
    refine bX4_canFeed_88 ⟨st_K_133 hs, ?_⟩
    rw [rd_acts hr, ha, o_le _ _ (by omega) (by omega)]
    rw [he] at k
    exact ⟨fun _ => k, fun c => absurd (Nat.le_refl _) c⟩
  | succ m ih =>
    intro j u9 u10 u11 hj he
    have rd := rd_act hr ha ha14 (a := j) (by omega)
    -- the next act, where this one feeds nothing
    have nx : feedI S na (fun a b c => feedB S na rs (S 45 r) a b c) r ah fe pl j = false → ∀ u9 u10 u11, WP (D + 3) mX4_canFeed 88 [some (.ref 133), some (.int (Int32.ofNat t)), some (.int v), some (.int fe), some (.int pl), some (.ref (136 + r)), some (.int ah), some (.int (dueS S (S 45 r) na)), some (.int (Int32.ofNat (j + 1))), u9, u10, u11] [] h Q := by
      intro hf u9 u10 u11
      refine ih (j + 1) u9 u10 u11 (by omega) ?_
      rw [he, anyF_succ, hf, Bool.false_or]
    refine bX4_canFeed_88 ⟨st_K_133 hs, ?_⟩
    rw [rd_acts hr, ha, o_le _ _ (by omega) (by omega), st_R_400_133 hs, o_c _ (by omega), st_AR_134_e hs (by omega), st_K_134 hs, rd.2.2.1, rdr.2.2.1, rdr.2.2.2.1, o_addn]
    refine ⟨fun c => by omega, fun _ => ⟨⟨by decide, by decide⟩, inA_o (st_L_134 hs) (by omega) (by decide), st_K_136 hs (by omega), st_K_136 hs (by omega), fun c1 => ⟨fun _ => nx (by unfold feedI; rw [decide_eq_false c1]; rfl) _ _ _, fun c2 => absurd rfl c2⟩, fun c1 => ⟨by omega, w_fits hr ha ha14 hz (by omega) ?_⟩⟩⟩
    have c1' : S 44 j = S 44 r := Classical.not_not.mp c1
    rw [KK_ret]
    refine bX4_canFeed_131 ?_
    rw [b2i_z, o_addn, rdr.2.2.2.1]
    refine ⟨fun c2 => ⟨fun _ => nx (by unfold feedI; rw [c2]; simp) _ _ _, fun c3 => absurd rfl c3⟩, fun c2 => ⟨fun c3 => absurd c3 (by decide), fun _ => ⟨fun c4 => nx (by unfold feedI; rw [decide_eq_false c4]; simp) _ _ _, fun c4 => ⟨st_K_136 hs (by omega), by decide, st_K_133 hs, bX4_writesAheadOf_0 (w_aof hr ha ha14 hz (by omega) ?_ na 0 (Nat.zero_add _))⟩⟩⟩⟩
    have c4' := Classical.not_not.mp c4
    rw [KK_ret]
    refine bX4_canFeed_170 ?_
    rw [rdr.2.2.1, o_addn, o_addn]
    refine ⟨fun c5 => nx (by unfold feedI; rw [decide_eq_false c5]; simp) _ _ _, fun c5 => ⟨st_K_136 hs (by omega), rcc _ _ _ _ ?_⟩⟩
    have c5' := Classical.not_not.mp c5
    rw [KK_ret]
    refine bX4_canFeed_203 ?_
    rw [b2i_z, o_addn]
    refine ⟨fun c6 => nx ?_ _ _ _, fun c6 => ?_⟩
    · have c6' : feedB S na rs (S 45 r) (S 44 r) (fe ||| bitI (Int32.ofNat j)) (pl ||| aofS S j ah (S 45 r) na) = false := c6
      unfold feedI
      dsimp only
      rw [c6']; simp
    · have c6' : feedB S na rs (S 45 r) (S 44 r) (fe ||| bitI (Int32.ofNat j)) (pl ||| aofS S j ah (S 45 r) na) = true := by
        cases hq : feedB S na rs (S 45 r) (S 44 r) (fe ||| bitI (Int32.ofNat j)) (pl ||| aofS S j ah (S 45 r) na) with
        | false => exact absurd hq c6
        | true => rfl
      have hall : feedI S na (fun a b c => feedB S na rs (S 45 r) a b c) r ah fe pl j = true := by
        unfold feedI
        dsimp only
        rw [decide_eq_true c1', show fitB S j ah (S 45 r) = true by simpa using c2, decide_eq_true c4', decide_eq_true c5', c6']
        rfl
      rw [he, anyF_succ, hall] at k
      exact k
theorem w_canFeed (hr : RC S F e X h) (ha : S 47 0 = Int32.ofNat na) (ha14 : na ≤ 14) (hz : ∀ a, a < na → S 41 a = 0 ∨ S 41 a = 1) :
    ∀ (rs : List Nat) (t : Nat) (v fe pl : Int32) (u5 u6 u7 u8 u9 u10 u11 : Option Value) (Q : Out → HP → Prop), (rds (S 41) na).drop t = rs → t + rs.length = (rds (S 41) na).length → Q (.inl (some (.int (b2i (feedB S na rs (ahd S (rds (S 41) na) t) v fe pl))))) h → WP (d + rs.length + 2) mX4_canFeed 0 [some (.ref 133), some (.int (Int32.ofNat t)), some (.int v), some (.int fe), some (.int pl), u5, u6, u7, u8, u9, u10, u11] [] h Q := by
  have hs := rcS hr
  obtain ⟨e404, e135⟩ := rd_reads hr ha ha14
  have hlen := rds_len (f := S 41) (n := na)
  intro rs
  induction rs with
  | nil =>
    intro t v fe pl u5 u6 u7 u8 u9 u10 u11 Q hd hl k
    refine bX4_canFeed_0 ⟨st_K_133 hs, ?_⟩
    simp only [List.length_nil] at hl
    rw [e404, o_lt _ _ (by omega) (by omega)]
    exact ⟨fun c => by omega, fun _ => k⟩
  | cons r rs ih =>
    intro t v fe pl u5 u6 u7 u8 u9 u10 u11 Q hd hl k
    simp only [List.length_cons] at hl
    have hget : (rds (S 41) na)[t]? = some r := by
      have : ((rds (S 41) na).drop t)[0]? = some r := by rw [hd]; rfl
      rw [List.getElem?_drop] at this
      exact this
    have hrn : r < na := rds_lt (List.mem_of_getElem? hget)
    have rdr := rd_act hr ha ha14 hrn
    have hd' : (rds (S 41) na).drop (t + 1) = rs := by
      rw [← List.drop_drop, hd]
      rfl
    have eah : ahd S (rds (S 41) na) (t + 1) = S 45 r := by
      unfold ahd
      rw [if_neg (by omega), Nat.add_sub_cancel, hget]
      rfl
    have cell : hAR h 135 t = 136 + r := e135 t r hget
    have rcc : ∀ (v fe pl : Int32) (Q : Out → HP → Prop), Q (.inl (some (.int (b2i (feedB S na rs (S 45 r) v fe pl))))) h → WP (d + rs.length + 2) mX4_canFeed 0 [some (.ref 133), some (.int (Int32.ofNat (t + 1))), some (.int v), some (.int fe), some (.int pl), none, none, none, none, none, none, none] [] h Q := by
      intro v fe pl Q q
      refine ih (t + 1) v fe pl none none none none none none none Q hd' (by omega) ?_
      rw [eah]
      exact q
    -- behind writesDueAhead
    have behind : ∀ u7 u8 u9 u10 u11, WP (d + rs.length + 2) mX4_writesDueAhead 0 [some (.ref 133), some (.int (S 45 r)), none, none] [] h (KK (d + rs.length + 2) mX4_canFeed mX4_writesDueAhead 45 [some (.ref 133), some (.int (Int32.ofNat t)), some (.int v), some (.int fe), some (.int pl), some (.ref (136 + r)), some (.int (ahd S (rds (S 41) na) t)), u7, u8, u9, u10, u11] [] Q) := by
      intro u7 u8 u9 u10 u11
      refine bX4_writesDueAhead_0 (w_due hr ha ha14 hz ?_ na 0 (Nat.zero_add _))
      rw [KK_ret]
      have loop : (decide (v = S 44 r ∧ dueS S (S 45 r) na &&& (pl ^^^ (-1)) = 0) && feedB S na rs (S 45 r) v fe pl) = false → ∀ u9 u10 u11, WP (d + rs.length + 3) mX4_canFeed 88 [some (.ref 133), some (.int (Int32.ofNat t)), some (.int v), some (.int fe), some (.int pl), some (.ref (136 + r)), some (.int (ahd S (rds (S 41) na) t)), some (.int (dueS S (S 45 r) na)), some (.int (Int32.ofNat 0)), u9, u10, u11] [] h Q := by
        intro hf u9 u10 u11
        unfold feedB at k
        rw [hf, Bool.false_or] at k
        exact w_feed_88 (D := d + rs.length) hr ha ha14 hz hrn (by omega) rcc k na 0 u9 u10 u11 (Nat.zero_add _) rfl
      refine bX4_canFeed_48 ⟨st_K_136 hs (by omega), ?_⟩
      rw [rdr.2.2.1, o_addn]
      refine ⟨fun c => loop (by rw [decide_eq_false (fun w => c w.1)]; rfl) _ _ _, fun c => ⟨fun c2 => loop (by rw [decide_eq_false (fun w => c2 w.2)]; rfl) _ _ _, fun c2 => rcc _ _ _ _ ?_⟩⟩
      rw [KK_ret]
      refine bX4_canFeed_80 ?_
      rw [b2i_z]
      refine ⟨fun c3 => loop (by rw [c3]; simp) _ _ _, fun c3 => ?_⟩
      unfold feedB at k
      rw [decide_eq_true ⟨Classical.not_not.mp c, Classical.not_not.mp c2⟩, show feedB S na rs (S 45 r) v fe pl = true by simpa using c3] at k
      exact k
    refine bX4_canFeed_0 ⟨st_K_133 hs, ?_⟩
    rw [e404, o_lt _ _ (by omega) (by omega), st_R_401_133 hs, st_K_135 hs, o_c _ (by omega), cell, rdr.2.2.2.1]
    refine ⟨fun _ => ⟨⟨by decide, by decide⟩, inA_o (st_L_135 hs) (by omega) (by decide), fun c => ?_, fun c => ⟨st_K_136 hs (by omega), by decide, ?_⟩⟩, fun c => by omega⟩
    · rw [show (0 : Int32) = Int32.ofNat 0 from rfl, o_eq _ _ (by omega) (by decide)] at c
      rw [o_sub1 _ (by omega), o_c _ (by omega)]
      obtain ⟨r0, hr0⟩ : ∃ r0, (rds (S 41) na)[t - 1]? = some r0 := by
        have hlt : t - 1 < (rds (S 41) na).length := by omega
        exact ⟨_, List.getElem?_eq_getElem hlt⟩
      have hr0n : r0 < na := rds_lt (List.mem_of_getElem? hr0)
      have rd0 := rd_act hr ha ha14 hr0n
      rw [e135 _ _ hr0, rd0.2.2.2.1]
      have ea : ahd S (rds (S 41) na) t = S 45 r0 := by
        unfold ahd
        rw [if_neg c, hr0]
        rfl
      have b2 := behind u7 u8 u9 u10 u11
      rw [ea] at b2
      exact ⟨inA_o (st_L_135 hs) (by omega) (by decide), st_K_136 hs (by omega), st_K_136 hs (by omega), by decide, b2⟩
    · rw [Classical.not_not, show (0 : Int32) = Int32.ofNat 0 from rfl, o_eq _ _ (by omega) (by decide)] at c
      have ea : ahd S (rds (S 41) na) t = 0 := by
        unfold ahd
        rw [if_pos c]
      have b2 := behind u7 u8 u9 u10 u11
      rw [ea] at b2
      exact b2
theorem c_isInOrder (hr : RC S F e X h) (ha : S 47 0 = Int32.ofNat na) (ha14 : na ≤ 14) (hz : ∀ a, a < na → S 41 a = 0 ∨ S 41 a = 1) (k : Q (.inl (some (.int (b2i (ordB S na))))) h) : WP (d + 18) mX11_isInOrder 0 [some (.ref 2)] [] h Q := by
  have hs := rcS hr
  have hlen := rds_len (f := S 41) (n := na)
  refine bX11_isInOrder_0 ⟨st_K_2 hs, ?_⟩
  rw [st_R_1104_2 hs]
  refine ⟨by decide, st_K_133 hs, bX4_hasOneOrder_0 ?_⟩
  obtain ⟨d', hd'⟩ : ∃ d', d + 16 = d' + (rds (S 41) na).length + 2 := ⟨d + 14 - (rds (S 41) na).length, by omega⟩
  rw [hd']
  refine w_canFeed hr ha ha14 hz (rds (S 41) na) 0 0 0 0 none none none none none none none _ rfl (Nat.zero_add _) ?_
  rw [KK_ret]
  refine bX4_hasOneOrder_8 ⟨isZ_b2i, ?_⟩
  rw [KK_ret]
  exact bX11_isInOrder_7 ⟨isZ_b2i, k⟩
end QHG
