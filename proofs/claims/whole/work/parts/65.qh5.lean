/-! ===== calls of the class: what is asked ===== -/
section QHE
variable {S S' : SI} {F : SF} {e : EX} {X : MX} {h h' : HP} {d : Nat} {Q : Out → HP → Prop} {e1 : Int32} {e3 : RW × UInt32} {n a b : Nat}
theorem in_cases {y : Int32} {k : Nat} (hk : k < 1000000) (hy : 0 ≤ y.toInt ∧ y.toInt ≤ k) : ∃ j, y = Int32.ofNat j ∧ j ≤ k := by
  obtain ⟨j, hj, h1, _⟩ := o_of (x := y) (b := k) hy.1 hy.2
  exact ⟨j, hj, by omega⟩
theorem c_steps (hr : RC S F e X h) (k : Q (.inl (some (.int (S 4 0)))) h) : WP d mX11_steps 0 [some (.ref 2)] [] h Q := by
  have hs := rcS hr
  refine bX11_steps_0 ⟨st_K_2 hs, ?_⟩
  rw [st_R_1104_2 hs, rd_steps hr]
  exact ⟨st_K_133 hs, k⟩
theorem c_messages (hr : RC S F (e1, 0, e3) X h) (k : Q (.inl (some (.int (S 39 0)))) h) : WP d mX11_messages 0 [some (.ref 2)] [] h Q := by
  have hs := rcS hr
  refine bX11_messages_0 ⟨st_K_2 hs, ?_⟩
  have hc : hI h 1001 4 = S 39 0 := by rw [rd_cnt hr]; exact Int32.add_zero _
  rw [st_R_1101_2 hs, hc]
  exact ⟨st_K_4 hs, k⟩
theorem c_acts (hr : RC S F e X h) (k : Q (.inl (some (.int (S 47 0)))) h) : WP d mX11_acts 0 [some (.ref 2)] [] h Q := by
  have hs := rcS hr
  refine bX11_acts_0 ⟨st_K_2 hs, ?_⟩
  rw [st_R_1104_2 hs, rd_acts hr]
  exact ⟨st_K_133 hs, k⟩
theorem c_message {q : Nat} (hr : RC S F (e1, 0, e3) X h) (hq : S 39 0 = Int32.ofNat q) (hq60 : q ≤ 60) {x y : Int32} {u : Option Value} (k3 : ¬ (0 ≤ x.toInt ∧ x.toInt < q) → Q (.inr 3) (thr h)) (k1 : (0 ≤ x.toInt ∧ x.toInt < q) → ¬ (0 ≤ y.toInt ∧ y.toInt ≤ 4) → Q (.inr 1) (thr h)) (k : ∀ p j, x = Int32.ofNat p → p < q → y = Int32.ofNat j → j ≤ 4 → Q (.inl (some (.int (S 37 (24 * p + if j = 4 then 8 else j))))) h) : WP (d + 2) mX11_message 0 [some (.ref 2), some (.int x), some (.int y), u] [] h Q := by
  have hs := rcS hr
  refine bX11_message_0 ⟨by decide, st_K_2 hs, w_needMessage hr hq hq60 (fun c => KK_exc rfl rfl rfl (k3 c)) ?_⟩
  intro p hp hpq
  rw [KK_ret]
  have hx : 0 ≤ x.toInt ∧ x.toInt < q := by rw [hp, o_i _ (by omega)]; omega
  have rb := ((rcR hr).2.2.2.2 _ (Or.inl ((rcR hr).1 p (by omega)))).1
  have mg := (rcN hr).2.2.2.2.1 p (by omega) (by rw [hq, o_i _ (by omega)]; omega)
  refine bX11_message_5 ?_
  rw [mg.1, mg.2.1, mg.2.2.1, mg.2.2.2.1, mg.2.2.2.2.1]
  refine ⟨fun c => ⟨rb, ?_⟩, fun c => ⟨rb, ?_⟩, fun c => ⟨rb, ?_⟩, fun c => ⟨rb, ?_⟩, fun c => ⟨rb, ?_⟩, fun c => k1 hx (fun w => ?_)⟩
  · exact k p 0 hp hpq c (by decide)
  · exact k p 1 hp hpq c (by decide)
  · exact k p 2 hp hpq c (by decide)
  · exact k p 3 hp hpq c (by decide)
  · exact k p 4 hp hpq c (by decide)
  · obtain ⟨j, hj, hj4⟩ := in_cases (k := 4) (by decide) w
    subst hj
    obtain ⟨c0, c1, c2, c3, c4⟩ := c
    match j, hj4 with
    | 0, _ => exact c0 rfl
    | 1, _ => exact c1 rfl
    | 2, _ => exact c2 rfl
    | 3, _ => exact c3 rfl
    | 4, _ => exact c4 rfl
/-- what of() tells -/
def ofV (S : SI) (F : SF) (m : Nat) : Nat → Int32
  | 0 => S 11 m
  | 1 => S 9 m
  | 2 => S 10 m
  | 3 => S 12 m
  | 4 => S 13 m
  | 5 => valU S m (nt (S 13 m))
  | 6 => if promB S F m = true then S 25 m else -1
  | _ => if S 5 m = 0 then 0 else 1
theorem c_of (hr : RC S F e X h) (hn : S 0 0 = Int32.ofNat n) (hn5 : n ≤ 5) (hl : ∀ m, m < n → ∃ l c, S 12 m = Int32.ofNat l ∧ l ≤ 30 ∧ S 13 m = Int32.ofNat c ∧ c ≤ l) {x y : Int32} {u : Option Value} (k3 : ¬ (0 ≤ x.toInt ∧ x.toInt < n) → Q (.inr 3) (thr h)) (k1 : (0 ≤ x.toInt ∧ x.toInt < n) → ¬ (0 ≤ y.toInt ∧ y.toInt ≤ 7) → Q (.inr 1) (thr h)) (k : ∀ m j, x = Int32.ofNat m → m < n → y = Int32.ofNat j → j ≤ 7 → Q (.inl (some (.int (ofV S F m j)))) h) : WP (d + 3) mX11_of 0 [some (.ref 2), some (.int x), some (.int y), u] [] h Q := by
  have hs := rcS hr
  refine bX11_of_0 ⟨by decide, st_K_2 hs, w_needMachine hr hn hn5 (fun c => KK_exc rfl rfl rfl (k3 c)) ?_⟩
  intro m hm hmn
  have hm5 : m < 5 := by omega
  rw [KK_ret]
  have hx : 0 ≤ x.toInt ∧ x.toInt < n := by rw [hm, o_i _ (by omega)]; omega
  obtain ⟨l, c, hl1, hl2, hc1, hc2⟩ := hl m hmn
  have K := st_K_150 hs hm5
  refine bX11_of_5 ?_
  rw [rd_role hr hm5, rd_term hr hm5, rd_vote hr hm5, st_R_801_150 hs hm5, rd_len hr hm5, rd_commit hr hm5, rd_up hr hm5]
  refine ⟨fun c => ⟨K, k m 0 hm hmn c (by decide)⟩, fun c => ⟨K, k m 1 hm hmn c (by decide)⟩, fun c => ⟨K, k m 2 hm hmn c (by decide)⟩, fun c => ⟨K, st_K_151 hs hm5, k m 3 hm hmn c (by decide)⟩, fun c => ⟨K, k m 4 hm hmn c (by decide)⟩, fun c => ⟨K, by omega, st_K_151 hs hm5, ?_⟩, fun c => ⟨by omega, K, ?_⟩, fun c => ⟨K, fun c2 => ?_, fun c2 => ?_⟩, fun c => k1 hx (fun w => ?_)⟩
  · refine w_valueUpTo hs (rcL hr) hm5 (by rw [hl1, o_i _ (by omega)]; omega) (by rw [hc1, o_i _ (by omega)]; omega) (by rw [hc1, hl1, o_i _ (by omega), o_i _ (by omega)]; omega) ?_
    rw [KK_ret]
    exact bX11_of_91 (k m 5 hm hmn c (by decide))
  · refine w_hasPromised hr hm5 ?_
    rw [KK_ret]
    refine bX11_of_96 ?_
    have kk := k m 6 hm hmn c (by decide)
    rw [b2i_z, rd_pto hr hm5]
    unfold ofV at kk
    refine ⟨fun c2 => ?_, fun c2 => ⟨K, ?_⟩⟩
    · rw [if_neg (by rw [c2]; decide)] at kk; exact kk
    · rw [if_pos (by simpa using c2)] at kk; exact kk
  · have kk := k m 7 hm hmn c (by decide)
    unfold ofV at kk
    rw [if_pos c2] at kk
    exact kk
  · have kk := k m 7 hm hmn c (by decide)
    unfold ofV at kk
    rw [if_neg c2] at kk
    exact kk
  · obtain ⟨j, hj, hj4⟩ := in_cases (k := 7) (by decide) w
    subst hj
    obtain ⟨c0, c1, c2, c3, c4, c5, c6, c7⟩ := c
    match j, hj4 with
    | 0, _ => exact c0 rfl
    | 1, _ => exact c1 rfl
    | 2, _ => exact c2 rfl
    | 3, _ => exact c3 rfl
    | 4, _ => exact c4 rfl
    | 5, _ => exact c5 rfl
    | 6, _ => exact c6 rfl
    | 7, _ => exact c7 rfl
theorem c_entry (hr : RC S F e X h) (hn : S 0 0 = Int32.ofNat n) (hn5 : n ≤ 5) (hl : ∀ m, m < n → ∃ l, S 12 m = Int32.ofNat l ∧ l ≤ 30) {x y z : Int32} {u : Option Value} (k3 : (∀ m, x = Int32.ofNat m → m < n → ¬ (1 ≤ y.toInt ∧ y.toInt ≤ (S 12 m).toInt)) → Q (.inr 3) (thr h)) (k1 : ∀ m, x = Int32.ofNat m → m < n → (1 ≤ y.toInt ∧ y.toInt ≤ (S 12 m).toInt) → ¬ (0 ≤ z.toInt ∧ z.toInt ≤ 3) → Q (.inr 1) (thr h)) (k : ∀ m q j, x = Int32.ofNat m → m < n → y = Int32.ofNat (q + 1) → (q : Int) < (S 12 m).toInt → z = Int32.ofNat j → j ≤ 3 → Q (.inl (some (.int (S (14 + j) (30 * m + q))))) h) : WP (d + 2) mX11_entry 0 [some (.ref 2), some (.int x), some (.int y), some (.int z), u] [] h Q := by
  have hs := rcS hr
  refine bX11_entry_0 ⟨by decide, st_K_2 hs, w_needMachine hr hn hn5 (fun c => KK_exc rfl rfl rfl (k3 (fun m q1 q2 => ?_))) ?_⟩
  · rw [q1, o_i _ (by omega)] at c; exact absurd ⟨by omega, by omega⟩ c
  intro m hm hmn
  have hm5 : m < 5 := by omega
  rw [KK_ret]
  obtain ⟨l, hl1, hl2⟩ := hl m hmn
  refine bX11_entry_5 ⟨st_K_150 hs hm5, ?_⟩
  rw [st_R_801_150 hs hm5]
  refine ⟨by omega, st_K_151 hs hm5, w_at hs (rcL hr) hm5 (by rw [hl1, o_i _ (by omega)]; omega) ?_⟩
  rw [KK_ret]
  refine bX11_entry_12 ?_
  by_cases c : 1 ≤ y.toInt ∧ y.toInt ≤ (S 12 m).toInt
  · rw [if_pos c]
    have c2 := c.2
    rw [hl1, o_i _ (by omega)] at c2
    have en := (rcL hr m hm5).2 (y.toInt - 1).toNat (by omega) (by rw [hl1, o_i _ (by omega)]; omega)
    obtain ⟨q', hq', hq'2⟩ := in_cases (y := y) (k := 30) (by decide) ⟨by omega, by omega⟩
    have hyi : y.toInt = q' := by rw [hq', o_i _ (by omega)]
    have kk := fun j hj hj3 => k m (y.toInt - 1).toNat j hm hmn (by rw [hq']; congr 1; rw [o_i _ (by omega)]; omega) (by rw [hl1, o_i _ (by omega)]; omega) hj hj3
    refine ⟨fun _ => ?_, fun w => absurd (by have := en.1; omega) w⟩
    rw [en.2.2.2.1, en.2.2.2.2.1, en.2.2.2.2.2.1, en.2.2.2.2.2.2]
    refine ⟨fun c => ⟨en.2.2.1, kk 0 c (by decide)⟩, fun c => ⟨en.2.2.1, kk 1 c (by decide)⟩, fun c => ⟨en.2.2.1, kk 2 c (by decide)⟩, fun c => ⟨en.2.2.1, kk 3 c (by decide)⟩, fun c3 => k1 m hm hmn c (fun w => ?_)⟩
    obtain ⟨j, hj, hj4⟩ := in_cases (k := 3) (by decide) w
    subst hj
    obtain ⟨c0, c1, c2, c3⟩ := c3
    match j, hj4 with
    | 0, _ => exact c0 rfl
    | 1, _ => exact c1 rfl
    | 2, _ => exact c2 rfl
    | 3, _ => exact c3 rfl
  · rw [if_neg c]
    refine ⟨fun w => absurd rfl w, fun _ => k3 (fun m' q1 q2 => ?_)⟩
    have : m' = m := by
      rw [hm] at q1
      have := congrArg Int32.toInt q1
      rw [o_i _ (by omega), o_i _ (by omega)] at this
      omega
    subst this
    exact c
theorem c_clock (hr : RC S F e X h) (hn : S 0 0 = Int32.ofNat n) (hn5 : n ≤ 5) {x : Int32} (k3 : ¬ (0 ≤ x.toInt ∧ x.toInt < n) → Q (.inr 3) (thr h)) (k : ∀ m, x = Int32.ofNat m → m < n → Q (.inl (some (.float (F 7 m)))) h) : WP (d + 1) mX11_clock 0 [some (.ref 2), some (.int x)] [] h Q := by
  have hs := rcS hr
  refine bX11_clock_0 ⟨by decide, st_K_2 hs, w_needMachine hr hn hn5 (fun c => KK_exc rfl rfl rfl (k3 c)) ?_⟩
  intro m hm hmn
  rw [KK_ret]
  refine bX11_clock_5 ⟨st_K_150 hs (by omega), ?_⟩
  rw [rd_clock hr (by omega)]
  exact k m hm hmn
theorem c_lease (hr : RC S F e X h) (hn : S 0 0 = Int32.ofNat n) (hn5 : n ≤ 5) (hz : ∀ m, m < n → S 23 m = 0 ∨ S 23 m = 1) {x : Int32} {u : Option Value} (k3 : ¬ (0 ≤ x.toInt ∧ x.toInt < n) → Q (.inr 3) (thr h)) (k : ∀ m, x = Int32.ofNat m → m < n → Q (.inl (some (.float (if S 23 m = 1 then F 24 m else 3212836864)))) h) : WP (d + 1) mX11_lease 0 [some (.ref 2), some (.int x), u] [] h Q := by
  have hs := rcS hr
  refine bX11_lease_0 ⟨by decide, st_K_2 hs, w_needMachine hr hn hn5 (fun c => KK_exc rfl rfl rfl (k3 c)) ?_⟩
  intro m hm hmn
  have hm5 : m < 5 := by omega
  rw [KK_ret]
  refine bX11_lease_5 ⟨st_K_150 hs hm5, ?_⟩
  have kk := k m hm hmn
  rw [st_R_802_150 hs hm5, rd_leased hr hm5]
  refine ⟨st_K_153 hs hm5, fun c => ?_, fun c => ?_⟩
  · rw [if_neg (by rw [c]; decide)] at kk; exact kk
  · have c1 := (hz m hmn).resolve_left c
    rw [if_pos c1] at kk
    rw [rd_luntil hr hm5 c1]
    exact kk
/-- how many of the first j machines are up and hold a lease -/
def leasN (S : SI) (F : SF) : Nat → Nat
  | 0 => 0
  | j + 1 => leasN S F j + (if ¬ S 5 j = 0 ∧ S 23 j = 1 ∧ fltG (F 7 j) (F 24 j) = true then 1 else 0)
theorem leasN_le {j : Nat} : leasN S F j ≤ j := by
  induction j with
  | zero => exact Nat.le_refl _
  | succ j ih => unfold leasN; split <;> omega
theorem w_leases_4 (hr : RC S F e X h) (hn : S 0 0 = Int32.ofNat n) (hn5 : n ≤ 5) (hz : ∀ m, m < n → S 23 m = 0 ∨ S 23 m = 1) (k : Q (.inl (some (.int (Int32.ofNat (leasN S F n))))) h) :
    ∀ (m j : Nat), j + m = n → WP (d + 1) mX11_leases 4 [some (.ref 2), some (.int (Int32.ofNat (leasN S F j))), some (.int (Int32.ofNat j))] [] h Q := by
  have hs := rcS hr
  intro m
  induction m with
  | zero =>
    intro j hj
    obtain rfl : j = n := by omega
    refine bX11_leases_4 ⟨st_K_2 hs, ?_⟩
    rw [st_R_1101_2 hs, rd_n hr, hn, o_le _ _ (by omega) (by omega)]
    exact ⟨st_K_4 hs, fun _ => k, fun c => absurd (Nat.le_refl _) c⟩
  | succ m ih =>
    intro j hj
    have hj5 : j < 5 := by omega
    have hle := leasN_le (S := S) (F := F) (j := j)
    have nx := ih (j + 1) (by omega)
    unfold leasN at nx
    refine bX11_leases_4 ⟨st_K_2 hs, ?_⟩
    rw [st_R_1101_2 hs, rd_n hr, hn, o_le _ _ (by omega) (by omega), st_R_1100_2 hs, o_c _ (by omega), st_AR_3_e hs hj5, st_K_3 hs, rd_up hr hj5, o_addn]
    refine ⟨st_K_4 hs, fun c => by omega, fun _ => ⟨⟨by decide, by decide⟩, inA_o (st_L_3 hs) (by omega) (by decide), st_K_150 hs hj5, fun c => ?_, fun c => ⟨by omega, w_holdsLease hr hj5 (hz j (by omega)) ?_⟩⟩⟩
    · rw [if_neg (fun w => w.1 c)] at nx; exact nx
    · rw [KK_ret]
      refine bX11_leases_36 ?_
      rw [b2i_z, o_addn, o_addn]
      refine ⟨fun c2 => ?_, fun c2 => ?_⟩
      · rw [if_neg (fun w => by rw [decide_eq_true w.2.1, w.2.2] at c2; exact absurd c2 (by decide))] at nx; exact nx
      · have c3 : S 23 j = 1 ∧ fltG (F 7 j) (F 24 j) = true := by
          cases hq : (decide (S 23 j = 1) && fltG (F 7 j) (F 24 j)) with
          | false => exact absurd hq c2
          | true => rw [Bool.and_eq_true, decide_eq_true_eq] at hq; exact hq
        rw [if_pos ⟨c, c3⟩] at nx; exact nx
theorem c_leases (hr : RC S F e X h) (hn : S 0 0 = Int32.ofNat n) (hn5 : n ≤ 5) (hz : ∀ m, m < n → S 23 m = 0 ∨ S 23 m = 1) {u v : Option Value} (k : Q (.inl (some (.int (Int32.ofNat (leasN S F n))))) h) : WP (d + 1) mX11_leases 0 [some (.ref 2), u, v] [] h Q :=
  bX11_leases_0 (w_leases_4 hr hn hn5 hz k n 0 (Nat.zero_add _))
theorem c_decision (hr : RC S F e X h) (hn : S 0 0 = Int32.ofNat n) (hn5 : n ≤ 5) {x y z : Int32} {u : Option Value} (k3 : ¬ ((0 ≤ x.toInt ∧ x.toInt < n) ∧ (0 ≤ y.toInt ∧ y.toInt < 4)) → Q (.inr 3) (thr h)) (k1 : ((0 ≤ x.toInt ∧ x.toInt < n) ∧ (0 ≤ y.toInt ∧ y.toInt < 4)) → ¬ (0 ≤ z.toInt ∧ z.toInt ≤ 3) → Q (.inr 1) (thr h)) (k : ∀ m j i, x = Int32.ofNat m → m < n → y = Int32.ofNat j → j < 4 → z = Int32.ofNat i → i ≤ 3 → Q (.inl (some (.int (S (27 + i) (4 * m + j))))) h) : WP (d + 1) mX11_decision 0 [some (.ref 2), some (.int x), some (.int y), some (.int z), u] [] h Q := by
  have hs := rcS hr
  refine bX11_decision_0 ⟨by decide, st_K_2 hs, w_needMachine hr hn hn5 (fun c => KK_exc rfl rfl rfl (k3 (fun w => c w.1))) ?_⟩
  intro m hm hmn
  have hm5 : m < 5 := by omega
  have hx : 0 ≤ x.toInt ∧ x.toInt < n := by rw [hm, o_i _ (by omega)]; omega
  rw [KK_ret]
  refine bX11_decision_6 ⟨by decide, st_K_2 hs, w_needChoice hr hm5 (fun c => KK_exc rfl rfl rfl (k3 (fun w => c w.2))) ?_⟩
  intro j hj hj4
  have hy : 0 ≤ y.toInt ∧ y.toInt < 4 := by rw [hj, o_i _ (by omega)]; omega
  rw [KK_ret]
  have ch := cho_of hr hm5 hj4
  have K := st_K_158 hs hm5 hj4
  refine bX11_decision_10 ?_
  rw [ch.1, ch.2.1, ch.2.2.1, ch.2.2.2.1]
  refine ⟨fun c => ⟨K, k m j 0 hm hmn hj hj4 c (by decide)⟩, fun c => ⟨K, k m j 1 hm hmn hj hj4 c (by decide)⟩, fun c => ⟨K, k m j 2 hm hmn hj hj4 c (by decide)⟩, fun c => ⟨K, k m j 3 hm hmn hj hj4 c (by decide)⟩, fun c => k1 ⟨hx, hy⟩ (fun w => ?_)⟩
  obtain ⟨i, hi, hi4⟩ := in_cases (k := 3) (by decide) w
  subst hi
  obtain ⟨c0, c1, c2, c3⟩ := c
  match i, hi4 with
  | 0, _ => exact c0 rfl
  | 1, _ => exact c1 rfl
  | 2, _ => exact c2 rfl
  | 3, _ => exact c3 rfl
/-- what act() tells -/
def actV (S : SI) (a : Nat) : Nat → Int32
  | 0 => if S 41 a = 0 then 0 else 1
  | 1 => S 44 a
  | 2 => S 45 a
  | _ => S 46 a
theorem c_act {na : Nat} (hr : RC S F e X h) (ha : S 47 0 = Int32.ofNat na) (ha14 : na ≤ 14) {x y : Int32} {u : Option Value} (k3 : ¬ (0 ≤ x.toInt ∧ x.toInt < na) → Q (.inr 3) (thr h)) (k1 : (0 ≤ x.toInt ∧ x.toInt < na) → ¬ (0 ≤ y.toInt ∧ y.toInt ≤ 3) → Q (.inr 1) (thr h)) (k : ∀ a j, x = Int32.ofNat a → a < na → y = Int32.ofNat j → j ≤ 3 → Q (.inl (some (.int (actV S a j)))) h) : WP (d + 1) mX11_act 0 [some (.ref 2), some (.int x), some (.int y), u] [] h Q := by
  have hs := rcS hr
  refine bX11_act_0 ⟨st_K_2 hs, ?_⟩
  rw [st_R_1104_2 hs]
  refine ⟨by decide, st_K_133 hs, w_hAt hr ha ha14 ?_⟩
  rw [KK_ret]
  refine bX11_act_8 ?_
  by_cases c : 0 ≤ x.toInt ∧ x.toInt < na
  · rw [if_pos c]
    obtain ⟨a, hx, han⟩ := o_in c (by omega)
    have rd := rd_act hr ha ha14 han
    have e : x.toInt.toNat = a := by rw [hx, o_i _ (by omega)]; rfl
    rw [e, rd.1, rd.2.2.1, rd.2.2.2.1, rd.2.2.2.2]
    have K := st_K_136 hs (a := a) (by omega)
    have k0 := fun c => k a 0 hx han c (by decide)
    unfold actV at k0
    refine ⟨fun _ => ⟨fun c => ⟨K, fun c2 => ?_, fun c2 => ?_⟩, fun c => ⟨K, k a 1 hx han c (by decide)⟩, fun c => ⟨K, k a 2 hx han c (by decide)⟩, fun c => ⟨K, k a 3 hx han c (by decide)⟩, fun c3 => k1 c (fun w => ?_)⟩, fun w => absurd (by omega) w⟩
    · have := k0 c
      rw [if_pos c2] at this
      exact this
    · have := k0 c
      rw [if_neg c2] at this
      exact this
    · obtain ⟨i, hi, hi4⟩ := in_cases (k := 3) (by decide) w
      subst hi
      obtain ⟨c0, c1, c2, c3⟩ := c3
      match i, hi4 with
      | 0, _ => exact c0 rfl
      | 1, _ => exact c1 rfl
      | 2, _ => exact c2 rfl
      | 3, _ => exact c3 rfl
  · rw [if_neg c]
    exact ⟨fun w => absurd rfl w, fun _ => k3 c⟩
end QHE
