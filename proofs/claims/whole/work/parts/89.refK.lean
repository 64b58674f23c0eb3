/-! ===== the reference: deliver ===== -/
section REFT
variable {S : SI} {F : SF} {e : EX} {M : SI} {G : SF} {c : Nat × Nat × Nat × (Nat → Int32)} {h : HP} {d : Nat} {Q : Out → HP → Prop} {n q l : Nat}
/-- what a message does, once the term is learnt -/
def hearK (P1 : PT) (m : Nat) (w : RW) (c : UInt32) : PT := if w 0 = 0 then askedP P1 m w else if w 0 = 1 then (votedS P1.1 m w, P1.2) else if w 0 = 2 then appendedP P1 m w c else if w 0 = 3 then ackedP P1 m w c else
  if w 0 = 4 then preparedP P1 m w else if w 0 = 5 then promisedP P1 m w else if w 0 = 6 then acceptedP P1 m w else (countsS P1.1 m w, P1.2)
theorem hearP_K {P : PT} {m : Nat} {w : RW} {c : UInt32} : hearP P m w c = hearK (if w 0 ≤ 3 then (learnS P.1 m (w 3), P.2) else P) m w c := rfl
/-- what hearing asks, by kind -/
def HYK (A : SI) (G : SF) (m n kd : Nat) (w : RW) (x : UInt32) : Prop :=
  (kd = 2 → ∃ p mn, w 4 = Int32.ofNat p ∧ w 8 = Int32.ofNat mn ∧ p + mn ≤ 30 ∧ mn ≤ 3 ∧ (p = 0 ↔ w 5 = 0) ∧ (∀ k, k < mn → w (10 + 4 * k) ≠ 0) ∧ nn32 (FP.fadd (G 7 m) (G 2 0)) = true) ∧
  (kd = 3 → (∃ f, w 1 = Int32.ofNat f ∧ f < 5) ∧ (∀ j, j < 5 → A 21 (5 * m + j) = 0 ∨ A 21 (5 * m + j) = 1) ∧ LEAH (clockP (commitS (sameS A m w) m, G) m w x) m n) ∧
  (4 ≤ kd → ∃ j, j < 4 ∧ w 6 = Int32.ofNat j ∧ (A 35 (4 * m + j) = 0 ∨ A 35 (4 * m + j) = 1))
theorem x_hear {A : SI} {m kd : Nat} {w : RW} {x : UInt32} (hr : RC S F e (A, G, c) h) (hM : A 1000 0 = 0) (hm : m < 5) (hw : ∀ i, i < 24 → A 49 i = w i) (hk : w 0 = Int32.ofNat kd) (hk7 : kd ≤ 7) (hn : A 0 0 = Int32.ofNat n) (hn5 : n = 3 ∨ n = 5) (hl : A 12 m = Int32.ofNat l) (h30 : l ≤ 30) (hq : A 39 0 = Int32.ofNat q) (hq60 : q ≤ 60) (HY : HYK A G m n kd w x) {v1 v2 v3 : Int32} (k : ∀ h', RC S F e ((hearK (A, G) m w x).1, (hearK (A, G) m w x).2, c) h' → WP (d + 3) mX12_deliver 325 [some (.ref 210), some (.int v1), some (.int v2), some (.int v3), some (.float x), some (.int (Int32.ofNat kd)), some (.int (Int32.ofNat m))] [] h' Q) : WP (d + 3) mX12_deliver 208 [some (.ref 210), some (.int v1), some (.int v2), some (.int v3), some (.float x), some (.int (Int32.ofNat kd)), some (.int (Int32.ofNat m))] [] h Q := by
  have hn5' : n ≤ 5 := by omega
  obtain ⟨H2, H3, H4⟩ := HY
  have hkk : kd = 0 ∨ kd = 1 ∨ kd = 2 ∨ kd = 3 ∨ kd = 4 ∨ kd = 5 ∨ kd = 6 ∨ kd = 7 := by omega
  rcases hkk with rfl | rfl | rfl | rfl | rfl | rfl | rfl | rfl
  · have ek : hearK (A, G) m w x = askedP (A, G) m w := by
      unfold hearK
      rw [if_pos (by rw [hk]; rfl)]
    rw [ek] at k
    refine bX12_deliver_208 ⟨fun _ => ⟨by decide, q0 hr hM, x_asked hr hM hm hl h30 hw hq hq60 ?_⟩, fun w => absurd w (by decide), fun w => absurd w (by decide), fun w => absurd w (by decide), fun w => absurd w (by decide), fun w => absurd w (by decide), fun w => absurd w (by decide), fun w => absurd w (by decide)⟩
    intro h' hr'
    rw [KK_ret]
    exact bX12_deliver_258 (k h' hr')
  · have ek : hearK (A, G) m w x = (votedS A m w, G) := by
      unfold hearK
      rw [if_neg (by rw [hk]; decide), if_pos (by rw [hk]; rfl)]
    rw [ek] at k
    refine bX12_deliver_208 ⟨fun w => absurd w (by decide), fun _ => ⟨by decide, q0 hr hM, x_voted hr hM hm hw ?_⟩, fun w => absurd w (by decide), fun w => absurd w (by decide), fun w => absurd w (by decide), fun w => absurd w (by decide), fun w => absurd w (by decide), fun w => absurd w (by decide)⟩
    intro h' hr'
    rw [KK_ret]
    exact bX12_deliver_267 (k h' hr')
  · have ek : hearK (A, G) m w x = appendedP (A, G) m w x := by
      unfold hearK
      rw [if_neg (by rw [hk]; decide), if_neg (by rw [hk]; decide), if_pos (by rw [hk]; rfl)]
    rw [ek] at k
    obtain ⟨p, mn, a3, a4, a1, a2, a5, a6, a7⟩ := H2 rfl
    refine bX12_deliver_208 ⟨fun w => absurd w (by decide), fun w => absurd w (by decide), fun _ => ⟨by decide, q0 hr hM, x_appended hr hM hm hw hl h30 a1 a2 a3 a4 a5 a6 hq hq60 a7 ?_⟩, fun w => absurd w (by decide), fun w => absurd w (by decide), fun w => absurd w (by decide), fun w => absurd w (by decide), fun w => absurd w (by decide)⟩
    intro h' hr'
    rw [KK_ret]
    exact bX12_deliver_278 (k h' hr')
  · have ek : hearK (A, G) m w x = ackedP (A, G) m w x := by
      unfold hearK
      rw [if_neg (by rw [hk]; decide), if_neg (by rw [hk]; decide), if_neg (by rw [hk]; decide), if_pos (by rw [hk]; rfl)]
    rw [ek] at k
    obtain ⟨⟨f, hw1, hf⟩, b1, b2⟩ := H3 rfl
    refine bX12_deliver_208 ⟨fun w => absurd w (by decide), fun w => absurd w (by decide), fun w => absurd w (by decide), fun _ => ⟨by decide, q0 hr hM, x_acknowledged hr hM hm hf hw hw1 hn hn5 hl h30 b1 b2 ?_⟩, fun w => absurd w (by decide), fun w => absurd w (by decide), fun w => absurd w (by decide), fun w => absurd w (by decide)⟩
    intro h' hr'
    rw [KK_ret]
    exact bX12_deliver_289 (k h' hr')
  · have ek : hearK (A, G) m w x = preparedP (A, G) m w := by
      unfold hearK
      rw [if_neg (by rw [hk]; decide), if_neg (by rw [hk]; decide), if_neg (by rw [hk]; decide), if_neg (by rw [hk]; decide), if_pos (by rw [hk]; rfl)]
    rw [ek] at k
    obtain ⟨j, hj, hw6, hz⟩ := H4 (by decide)
    refine bX12_deliver_208 ⟨fun w => absurd w (by decide), fun w => absurd w (by decide), fun w => absurd w (by decide), fun w => absurd w (by decide), fun _ => ⟨by decide, q0 hr hM, x_prepared hr hM hm hj hw hw6 hq hq60 ?_⟩, fun w => absurd w (by decide), fun w => absurd w (by decide), fun w => absurd w (by decide)⟩
    intro h' hr'
    rw [KK_ret]
    exact bX12_deliver_298 (k h' hr')
  · have ek : hearK (A, G) m w x = promisedP (A, G) m w := by
      unfold hearK
      rw [if_neg (by rw [hk]; decide), if_neg (by rw [hk]; decide), if_neg (by rw [hk]; decide), if_neg (by rw [hk]; decide), if_neg (by rw [hk]; decide), if_pos (by rw [hk]; rfl)]
    rw [ek] at k
    obtain ⟨j, hj, hw6, hz⟩ := H4 (by decide)
    refine bX12_deliver_208 ⟨fun w => absurd w (by decide), fun w => absurd w (by decide), fun w => absurd w (by decide), fun w => absurd w (by decide), fun w => absurd w (by decide), fun _ => ⟨by decide, q0 hr hM, x_promised hr hM hm hj hw hw6 hn hn5' hz hq hq60 ?_⟩, fun w => absurd w (by decide), fun w => absurd w (by decide)⟩
    intro h' hr'
    rw [KK_ret]
    exact bX12_deliver_307 (k h' hr')
  · have ek : hearK (A, G) m w x = acceptedP (A, G) m w := by
      unfold hearK
      rw [if_neg (by rw [hk]; decide), if_neg (by rw [hk]; decide), if_neg (by rw [hk]; decide), if_neg (by rw [hk]; decide), if_neg (by rw [hk]; decide), if_neg (by rw [hk]; decide), if_pos (by rw [hk]; rfl)]
    rw [ek] at k
    obtain ⟨j, hj, hw6, hz⟩ := H4 (by decide)
    refine bX12_deliver_208 ⟨fun w => absurd w (by decide), fun w => absurd w (by decide), fun w => absurd w (by decide), fun w => absurd w (by decide), fun w => absurd w (by decide), fun w => absurd w (by decide), fun _ => ⟨by decide, q0 hr hM, x_accepted hr hM hm hj hw hw6 hq hq60 ?_⟩, fun w => absurd w (by decide)⟩
    intro h' hr'
    rw [KK_ret]
    exact bX12_deliver_316 (k h' hr')
  · have ek : hearK (A, G) m w x = (countsS A m w, G) := by
      unfold hearK
      rw [if_neg (by rw [hk]; decide), if_neg (by rw [hk]; decide), if_neg (by rw [hk]; decide), if_neg (by rw [hk]; decide), if_neg (by rw [hk]; decide), if_neg (by rw [hk]; decide), if_neg (by rw [hk]; decide)]
    rw [ek] at k
    obtain ⟨j, hj, hw6, hz⟩ := H4 (by decide)
    refine bX12_deliver_208 ⟨fun w => absurd w (by decide), fun w => absurd w (by decide), fun w => absurd w (by decide), fun w => absurd w (by decide), fun w => absurd w (by decide), fun w => absurd w (by decide), fun w => absurd w (by decide), fun _ => ⟨by decide, q0 hr hM, x_counts hr hM hm hj hw hw6 hz ?_⟩⟩
    intro h' hr'
    rw [KK_ret]
    exact k h' hr'
end REFT
