/-! ===== the reference: request ===== -/
section REFR
variable {S : SI} {F : SF} {e : EX} {M : SI} {G : SF} {c : Nat × Nat × Nat × (Nat → Int32)} {h : HP} {d : Nat} {Q : Out → HP → Prop} {n q l : Nat}
theorem numG_cg {S1 S2 : SI} {i : Nat} {a s : Int32} (h1 : S1 15 = S2 15) (h2 : S1 16 = S2 16) : ∀ m j, numG S1 i a s j m = numG S2 i a s j m := by
  intro m
  induction m with
  | zero => intro j; rfl
  | succ m ih =>
    intro j
    unfold numG
    rw [h1, h2, ih]
theorem actOf_cg {S1 S2 : SI} {a s : Int32} (h1 : S1 41 = S2 41) (h2 : S1 42 = S2 42) (h3 : S1 43 = S2 43) : ∀ m j, actOf S1 a s j m = actOf S2 a s j m := by
  intro m
  induction m with
  | zero => intro j; rfl
  | succ m ih =>
    intro j
    unfold actOf
    rw [h1, h2, h3, ih]
theorem ENDH_act {T : SI} {w a s v an : Int32} {na : Nat} (H : ENDH T n na) (h14 : na < 14) (hw : w = 0 ∨ w = 1) : ENDH (actS T w a s v an) n (na + 1) := by
  obtain ⟨h1, h2, h3, h4, h5, h6⟩ := H
  have en : nt (T 47 0) = na := nt_of h3 (by omega)
  refine ⟨h1, h2, ?_, by omega, fun x hx => ?_, h6⟩
  · refine u2_eq.trans ?_
    rw [h3, o_addn]
  · show u2 T 41 (nt (T 47 0)) w 41 x = 0 ∨ u2 T 41 (nt (T 47 0)) w 41 x = 1
    rw [en]
    by_cases c : x = na
    · rw [c, u2_eq]; exact hw
    · rw [u2_ne (by omega)]; exact h5 x (by omega)
theorem x_req_287 {B : SI} {m na lb : Nat} {cl s : Int32} (hr : RC S F e (B, G, c) h) (hM : B 1000 0 = 0) (hm : m < 5) (hl : B 12 m = Int32.ofNat lb) (h30 : lb ≤ 30) (H : ENDH B n na) (k : ∀ h', RC S F e (endsS B, G, c) h' → Q (.inl (some (.int (Int32.ofNat (numG B m cl s 0 (nt (B 12 m))))))) h') {v1 v4 v5 v6 v7 v8 : Int32} {u10 : Option Value} : WP (d + 1) mX12_ends 0 [some (.ref 210), none] [] h (KK (d + 1) mX12_request mX12_ends 284 [some (.ref 210), some (.int v1), some (.int cl), some (.int s), some (.int v4), some (.int v5), some (.int v6), some (.int v7), some (.int v8), some (.int (Int32.ofNat m)), u10] [] Q) := by
  refine x_endsH hr hM H ?_
  intro h' hr'
  rw [KK_ret]
  have hM' : endsS B 1000 0 = 0 := (ends_9 _ (by decide)).trans hM
  have hl' : endsS B 12 m = Int32.ofNat lb := (ends_9 _ (by decide)).trans hl
  refine bX12_request_287 ⟨by decide, q0 hr' hM', x_entryOf0 hr' hM' hm hl' h30 ?_⟩
  rw [KK_ret]
  refine bX12_request_296 ?_
  have en : numG (endsS B) m cl s 0 lb = numG B m cl s 0 lb := numG_cg (funext fun k => ends_9 _ (by decide)) (funext fun k => ends_9 _ (by decide)) lb 0
  rw [en]
  have t := k h' hr'
  rw [hl, nt_of rfl (by omega)] at t
  exact t
theorem x_req_206 {A : SI} {m na : Nat} {cl s v : Int32} (hr : RC S F e (A, G, c) h) (hM : A 1000 0 = 0) (hm : m < 5) (hl : A 12 m = Int32.ofNat l) (h30 : l < 30) (H : ENDH A n na) (k : ∀ h', RC S F e (endsS (if outd A m cl s (nt (A 12 m)) = true then A else putS A m (A 9 m) cl s v), G, c) h' → Q (.inl (some (.int (Int32.ofNat (numG (if outd A m cl s (nt (A 12 m)) = true then A else putS A m (A 9 m) cl s v) m cl s 0 (nt ((if outd A m cl s (nt (A 12 m)) = true then A else putS A m (A 9 m) cl s v) 12 m))))))) h') {v1 v5 v6 v7 v8 : Int32} {u10 : Option Value} : WP (d + 2) mX12_request 206 [some (.ref 210), some (.int v1), some (.int cl), some (.int s), some (.int v), some (.int v5), some (.int v6), some (.int v7), some (.int v8), some (.int (Int32.ofNat m)), u10] [] h Q := by
  have en : nt (A 12 m) = l := nt_of hl (by omega)
  rw [en] at k
  refine bX12_request_206 ⟨by decide, q0 hr hM, x_entryOf1 hr hM hm hl (by omega) ?_⟩
  intro x hx
  rw [KK_ret]
  refine bX12_request_215 ⟨fun a => ⟨by decide, q0 hr hM, ?_⟩, fun a => ?_⟩
  · have ho : outd A m cl s l = true := by
      cases z : outd A m cl s l
      · exact absurd (hx.mpr z) a
      · rfl
    rw [if_pos ho] at k
    exact x_req_287 hr hM hm hl (by omega) H k
  · have ho : ¬ outd A m cl s l = true := by
      rw [hx.mp (Classical.not_not.mp a)]
      decide
    rw [if_neg ho] at k
    have r3 := rm_16 (30 * m + l) s (rm_15 (30 * m + l) cl (rm_14 (30 * m + l) (A 9 m) hr))
    have hM3 : u2 (u2 (u2 A 14 (30 * m + l) (A 9 m)) 15 (30 * m + l) cl) 16 (30 * m + l) s 1000 0 = 0 := hM
    simp (disch := omega) only [q0 hr hM, qR_9 hr hM, qK_9 hr hM, qi_9 hr hM, qA_9 hr hM, qR_12 hr hM, qK_12 hr hM, qi_12 hr hM, qA_12 hr hM, qR_14 hr hM, qK_14 hr hM, qi_14 hr hM, qA_14 hr hM, qR_15 hr hM, qK_15 hr hM, qi_15 hr hM, qA_15 hr hM, qR_16 hr hM, qK_16 hr hM, qi_16 hr hM, qA_16 hr hM, qR_17 hr hM, qK_17 hr hM, qi_17 hr hM, qA_17 hr hM, hl, o_c, o_add, o_addn, o_nadd, o_muln, o_le, o_lt, o_nle, o_len, o_nlt, o_ltn, o_eq, o_eqn, o_neq, o_sub1, true_and]
    have r4 := rm_17 (30 * m + l) v r3
    have hM4 : u2 (u2 (u2 (u2 A 14 (30 * m + l) (A 9 m)) 15 (30 * m + l) cl) 16 (30 * m + l) s) 17 (30 * m + l) v 1000 0 = 0 := hM
    have a12 := qA_12 r4 hM4
    have e12 : u2 (u2 (u2 (u2 A 14 (30 * m + l) (A 9 m)) 15 (30 * m + l) cl) 16 (30 * m + l) s) 17 (30 * m + l) v 12 m = Int32.ofNat l := hl
    refine bX12_request_269 ?_
    simp (disch := omega) only [q0 r3 hM3, qR_17 r3 hM3, qK_17 r3 hM3, qi_17 r3 hM3, qA_17 r3 hM3, qR_12 r3 hM3, qK_12 r3 hM3, qi_12 r3 hM3, qA_12 r3 hM3, a12, e12, o_c, o_add, o_addn, o_nadd, o_muln, o_le, o_lt, o_nle, o_len, o_nlt, o_ltn, o_eq, o_eqn, o_neq, o_sub1, true_and]
    have r5 := rm_12 m (Int32.ofNat (l + 1)) r4
    have eb : u2 (u2 (u2 (u2 (u2 A 14 (30 * m + l) (A 9 m)) 15 (30 * m + l) cl) 16 (30 * m + l) s) 17 (30 * m + l) v) 12 m (Int32.ofNat (l + 1)) = putS A m (A 9 m) cl s v := by
      unfold putS
      rw [en, hl, o_addn]
    rw [eb] at r5
    have hl5 : putS A m (A 9 m) cl s v 12 m = Int32.ofNat (l + 1) := by
      rw [← eb, u2_eq]
    exact ⟨by decide, x_req_287 r5 hM hm hl5 (by omega) H k⟩
theorem x_request {na : Nat} (hr : RC S F e (M, G, c) h) (hM : M 1000 0 = 0) (hn : M 0 0 = Int32.ofNat n) (hn5 : n = 3 ∨ n = 5) (hl : ∀ m, m < n → ∃ l, M 12 m = Int32.ofNat l ∧ l ≤ 30) (H : ENDH M n na) {x cl s v : Int32} {u5 u6 u7 u8 u9 u10 : Option Value} (k3 : ¬ ((0 ≤ x.toInt ∧ x.toInt < n) ∧ (0 ≤ cl.toInt ∧ cl.toInt < 4)) → ∀ h', RC S F e (u2 M 50 0 1, G, c) h' → Q (.inl (some (.int 0))) h') (k1 : ((0 ≤ x.toInt ∧ x.toInt < n) ∧ (0 ≤ cl.toInt ∧ cl.toInt < 4)) → ¬ reqFit M cl s v na → ∀ h', RC S F e (u2 M 50 0 2, G, c) h' → Q (.inl (some (.int 0))) h') (k2 : ∀ m, x = Int32.ofNat m → m < n → (0 ≤ cl.toInt ∧ cl.toInt < 4) → reqFit M cl s v na → ¬ reqCan M m cl s na → ∀ h', RC S F e (u2 M 50 0 3, G, c) h' → Q (.inl (some (.int 0))) h') (k : ∀ m, x = Int32.ofNat m → m < n → (0 ≤ cl.toInt ∧ cl.toInt < 4) → reqFit M cl s v na → reqCan M m cl s na → ∀ h', RC S F e (endsS (requestS (stepS (u2 M 50 0 0)) m cl s v), G, c) h' → Q (.inl (some (.int (Int32.ofNat (numG (requestS (stepS (u2 M 50 0 0)) m cl s v) m cl s 0 (nt (requestS (stepS (u2 M 50 0 0)) m cl s v 12 m))))))) h') : WP (d + 2) mX12_request 0 [some (.ref 210), some (.int x), some (.int cl), some (.int s), some (.int v), u5, u6, u7, u8, u9, u10] [] h Q := by
  obtain ⟨_, _, ha, ha14, hz, hcm⟩ := id H
  have ec : ((0 : Int32).toInt ≤ cl.toInt ∧ cl.toInt ≤ (3 : Int32).toInt) = (0 ≤ cl.toInt ∧ cl.toInt < 4) := by
    have e3 : (3 : Int32).toInt = 3 := rfl
    have e0 : (0 : Int32).toInt = 0 := rfl
    rw [e3, e0]
    exact propext ⟨fun w => by omega, fun w => by omega⟩
  have es : ((1 : Int32).toInt ≤ s.toInt ∧ s.toInt ≤ (99 : Int32).toInt) = (1 ≤ s.toInt ∧ s.toInt ≤ 99) := rfl
  have ev : ((0 : Int32).toInt ≤ v.toInt ∧ v.toInt ≤ (999 : Int32).toInt) = (0 ≤ v.toInt ∧ v.toInt ≤ 999) := rfl
  have fit : ∀ v5 : Int32, (∀ b : Bool, b = decide ((1 ≤ s.toInt ∧ s.toInt ≤ 99) ∧ (0 ≤ v.toInt ∧ v.toInt ≤ 999)) → WP (d + 2) mX12_request 51 [some (.ref 210), some (.int x), some (.int cl), some (.int s), some (.int v), some (.int v5), u6, u7, u8, u9, u10] [.int (b2i b)] h Q) → WP (d + 1) mX12_in 0 [some (.int s), some (.int 1), some (.int 99)] [] h (KK (d + 1) mX12_request mX12_in 28 [some (.ref 210), some (.int x), some (.int cl), some (.int s), some (.int v), some (.int v5), u6, u7, u8, u9, u10] [] Q) := by
    intro v5 g
    refine x_in ?_
    rw [KK_ret, decide_eq_decide.mpr (iff_of_eq es)]
    refine bX12_request_31 ⟨fun a => bX12_request_50 (g false ?_), fun a => x_in ?_⟩
    · rw [b2i_z] at a
      exact (decide_eq_false (fun z => of_decide_eq_false a z.1)).symm
    · have a' : 1 ≤ s.toInt ∧ s.toInt ≤ 99 := by simpa [b2i_z] using a
      rw [KK_ret, decide_eq_decide.mpr (iff_of_eq ev)]
      refine bX12_request_43 ⟨fun b => bX12_request_50 (g false ?_), fun b => g true ?_⟩
      · rw [b2i_z] at b
        exact (decide_eq_false (fun z => of_decide_eq_false b z.2)).symm
      · have b' : 0 ≤ v.toInt ∧ v.toInt ≤ 999 := by simpa [b2i_z] using b
        exact (decide_eq_true ⟨a', b'⟩).symm
  have bad3 : ¬ ((0 ≤ x.toInt ∧ x.toInt < n) ∧ (0 ≤ cl.toInt ∧ cl.toInt < 4)) → ∀ b : Bool, WP (d + 2) mX12_request 51 [some (.ref 210), some (.int x), some (.int cl), some (.int s), some (.int v), some (.int 0), u6, u7, u8, u9, u10] [.int (b2i b)] h Q := by
    intro cb b
    refine bX12_request_51 ⟨fun _ => bX12_request_72 (bX12_request_73 ⟨fun w => bX12_request_102 ⟨fun _ => ⟨by decide, q0 hr hM, x_goes (a := false) (b := false) (g := false) hr hM ?_⟩, fun w => absurd rfl w⟩, fun w => ⟨fun _ => bX12_request_98 ⟨fun _ => ⟨by decide, q0 hr hM, x_goes (a := false) (b := true) (g := false) hr hM ?_⟩, fun w => absurd rfl w⟩, fun w => absurd rfl w⟩⟩), fun w => absurd rfl w⟩
    · intro h1 hr1
      rw [KK_ret]
      exact bX12_request_172 ⟨fun w => absurd rfl w, fun _ => k3 cb h1 hr1⟩
    · intro h1 hr1
      rw [KK_ret]
      exact bX12_request_172 ⟨fun w => absurd rfl w, fun _ => k3 cb h1 hr1⟩
  refine bX12_request_0 ⟨by decide, q0 hr hM, x_isMachine hr hM hn hn5 ?_⟩
  rw [KK_ret]
  refine bX12_request_5 ⟨fun a => fit 0 (fun b _ => bad3 ?_ b), fun a => x_in ?_⟩
  · rw [b2i_z] at a
    exact fun z => of_decide_eq_false a z.1
  have cx : 0 ≤ x.toInt ∧ x.toInt < n := by simpa [b2i_z] using a
  rw [KK_ret, decide_eq_decide.mpr (iff_of_eq ec)]
  refine bX12_request_14 ⟨fun a => fit 0 (fun b _ => bad3 ?_ b), fun a => fit 1 ?_⟩
  · rw [b2i_z] at a
    exact fun z => of_decide_eq_false a z.2
  have cc : 0 ≤ cl.toInt ∧ cl.toInt < 4 := by simpa [b2i_z] using a
  obtain ⟨m, hm, hmn⟩ := o_in cx (by omega)
  have kk := k m hm hmn cc
  have kb2 := k2 m hm hmn cc
  have kb1 := k1 ⟨cx, cc⟩
  obtain ⟨l, hl1, hl2⟩ := hl m hmn
  clear k k1 k2 k3 fit bad3
  subst hm
  have r102 : ¬ reqFit M cl s v na → ∀ (v6 v7 : Int32), WP (d + 2) mX12_request 102 [some (.ref 210), some (.int (Int32.ofNat m)), some (.int cl), some (.int s), some (.int v), some (.int 1), some (.int v6), some (.int v7), u8, u9, u10] [] h Q := by
    intro nf v6 v7
    have g : ∀ (b : Bool) (y8 : Int32), WP (d + 1) mX12_goes 0 [some (.ref 210), some (.int (b2i true)), some (.int (b2i false)), some (.int (b2i b))] [] h (KK (d + 1) mX12_request mX12_goes 169 [some (.ref 210), some (.int (Int32.ofNat m)), some (.int cl), some (.int s), some (.int v), some (.int 1), some (.int 0), some (.int v7), some (.int y8), u9, u10] [] Q) := by
      intro b y8
      refine x_goes hr hM ?_
      intro h1 hr1
      rw [KK_ret]
      cases b
      · exact bX12_request_172 ⟨fun w => absurd rfl w, fun _ => kb1 nf h1 hr1⟩
      · exact bX12_request_172 ⟨fun w => absurd rfl w, fun _ => kb1 nf h1 hr1⟩
    refine bX12_request_102 ⟨fun w => absurd w (by decide), fun _ => ?_⟩
    simp (disch := omega) only [q0 hr hM, qR_5 hr hM, qK_5 hr hM, qi_5 hr hM, qA_5 hr hM, qR_11 hr hM, qK_11 hr hM, qi_11 hr hM, qA_11 hr hM, qR_12 hr hM, qK_12 hr hM, qi_12 hr hM, qA_12 hr hM, o_c, o_add, o_addn, o_nadd, o_muln, o_le, o_lt, o_nle, o_len, o_nlt, o_ltn, o_eq, o_eqn, o_neq, o_sub1, true_and]
    exact ⟨fun _ => ⟨by decide, g false _⟩, fun _ => ⟨fun _ => ⟨by decide, g false _⟩, fun _ => ⟨fun _ => ⟨by decide, g false _⟩, fun _ => ⟨fun _ => ⟨by decide, g true _⟩, fun _ => ⟨fun _ => ⟨by decide, g false _⟩, fun _ => ⟨by decide, g true _⟩⟩⟩⟩⟩⟩
  have r98 : reqFit M cl s v na → ∀ (v6 v7 : Int32), ((v7 = -1 ∧ actOf M cl s 0 na = none) ∨ (∃ a, v7 = Int32.ofNat a ∧ a < na ∧ actOf M cl s 0 na = some a)) → WP (d + 2) mX12_request 98 [some (.ref 210), some (.int (Int32.ofNat m)), some (.int cl), some (.int s), some (.int v), some (.int 1), some (.int v6), some (.int v7), u8, u9, u10] [] h Q := by
    intro hf v6 v7 hv
    have gno : ¬ reqCan M m cl s na → ∀ y8 : Int32, WP (d + 1) mX12_goes 0 [some (.ref 210), some (.int 1), some (.int 1), some (.int 0)] [] h (KK (d + 1) mX12_request mX12_goes 169 [some (.ref 210), some (.int (Int32.ofNat m)), some (.int cl), some (.int s), some (.int v), some (.int 1), some (.int 1), some (.int v7), some (.int y8), u9, u10] [] Q) := by
      intro nc y8
      refine x_goes (a := true) (b := true) (g := false) hr hM ?_
      intro h1 hr1
      rw [KK_ret]
      exact bX12_request_172 ⟨fun w => absurd rfl w, fun _ => kb2 hf nc h1 hr1⟩
    have gyes : reqCan M m cl s na → ∀ y8 : Int32, WP (d + 1) mX12_goes 0 [some (.ref 210), some (.int 1), some (.int 1), some (.int 1)] [] h (KK (d + 1) mX12_request mX12_goes 169 [some (.ref 210), some (.int (Int32.ofNat m)), some (.int cl), some (.int s), some (.int v), some (.int 1), some (.int 1), some (.int v7), some (.int y8), u9, u10] [] Q) := by
      intro hc y8
      refine x_goes (a := true) (b := true) (g := true) hr hM ?_
      intro h1 hr1
      rw [KK_ret]
      have kc := kk hf hc
      have hM1 : u2 M 50 0 0 1000 0 = 0 := hM
      have e4 : hI h1 1204 210 = M 4 0 := qI_4 (M := u2 M 50 0 0) hr1 hM1
      have r1 : RC S F e (stepS (u2 M 50 0 0), G, c) (sI h1 1204 210 (M 4 0 + 1)) := rm_4 (M 4 0 + 1) hr1
      have hMT : stepS (u2 M 50 0 0) 1000 0 = 0 := hM
      have haT : stepS (u2 M 50 0 0) 47 0 = Int32.ofNat na := ha
      have eT : actOf (stepS (u2 M 50 0 0)) cl s 0 na = actOf M cl s 0 na := actOf_cg (S1 := stepS (u2 M 50 0 0)) (S2 := M) rfl rfl rfl na 0
      have enT : nt (stepS (u2 M 50 0 0) 47 0) = na := nt_of ha (by omega)
      have HT : ENDH (stepS (u2 M 50 0 0)) n na := H
      have hlT : stepS (u2 M 50 0 0) 12 m = Int32.ofNat l := hl1
      have hl30 : l < 30 := by
        have := hc.2.2.1
        rw [hl1, o_i _ (by omega)] at this
        omega
      refine bX12_request_172 ⟨fun _ => ⟨q0 (M := u2 M 50 0 0) hr1 hM1, ?_⟩, fun w => absurd (by decide) w⟩
      rw [e4]
      rcases hv with ⟨hv1, hv2⟩ | ⟨a, hv1, hv2, hv3⟩
      · subst hv1
        have hna : na < 14 := hc.2.2.2.resolve_left (by rw [hv2]; simp)
        have eR : requestS (stepS (u2 M 50 0 0)) m cl s v = (if outd (actS (stepS (u2 M 50 0 0)) 1 cl s v (-1)) m cl s (nt (actS (stepS (u2 M 50 0 0)) 1 cl s v (-1) 12 m)) = true then actS (stepS (u2 M 50 0 0)) 1 cl s v (-1) else putS (actS (stepS (u2 M 50 0 0)) 1 cl s v (-1)) m (actS (stepS (u2 M 50 0 0)) 1 cl s v (-1) 9 m) cl s v) := by
          unfold requestS
          rw [enT, eT, hv2]
          rfl
        rw [eR] at kc
        refine ⟨fun w => absurd rfl w, fun _ => ⟨by decide, x_acts r1 hMT haT hna rfl ?_⟩⟩
        intro h2 hr2
        rw [KK_ret]
        exact x_req_206 (A := actS (stepS (u2 M 50 0 0)) 1 cl s v (-1)) hr2 hMT (by omega) hlT hl30 (ENDH_act HT hna (Or.inr rfl)) kc
      · have eR : requestS (stepS (u2 M 50 0 0)) m cl s v = (if outd (stepS (u2 M 50 0 0)) m cl s (nt (stepS (u2 M 50 0 0) 12 m)) = true then stepS (u2 M 50 0 0) else putS (stepS (u2 M 50 0 0)) m (stepS (u2 M 50 0 0) 9 m) cl s v) := by
          unfold requestS
          rw [enT, eT, hv3]
          rfl
        rw [eR] at kc
        subst hv1
        exact ⟨fun _ => x_req_206 r1 hMT (by omega) hlT hl30 HT kc, fun w => absurd (by rw [o_ne1 _ (by omega)]; exact id) w⟩
    refine bX12_request_98 ⟨fun w => absurd w (by decide), fun _ => ?_⟩
    simp (disch := omega) only [q0 hr hM, qR_5 hr hM, qK_5 hr hM, qi_5 hr hM, qA_5 hr hM, qR_11 hr hM, qK_11 hr hM, qi_11 hr hM, qA_11 hr hM, qR_12 hr hM, qK_12 hr hM, qi_12 hr hM, qA_12 hr hM, qI_47 hr hM, ha, hl1, o_c, o_add, o_addn, o_nadd, o_muln, o_le, o_lt, o_nle, o_len, o_nlt, o_ltn, o_eq, o_eqn, o_neq, o_sub1, true_and]
    refine ⟨fun c5 => ⟨by decide, gno (fun z => z.1 c5) _⟩, fun c5 => ⟨fun c11 => ⟨by decide, gno (fun z => c11 z.2.1) _⟩, fun c11 => ⟨fun c12 => ⟨by decide, gno (fun z => ?_) _⟩, fun c12 => ⟨fun c7 => ⟨by decide, gyes ⟨c5, Classical.not_not.mp c11, ?_, Or.inl ?_⟩ _⟩, fun c7 => ⟨fun c14 => ⟨by decide, gno (fun z => ?_) _⟩, fun c14 => ⟨by decide, gyes ⟨c5, Classical.not_not.mp c11, ?_, Or.inr ?_⟩ _⟩⟩⟩⟩⟩⟩
    · have := z.2.2.1
      rw [hl1, o_i _ (by omega)] at this
      omega
    · rw [hl1, o_i _ (by omega)]
      omega
    · rcases hv with ⟨hv1, hv2⟩ | ⟨a, hv1, hv2, hv3⟩
      · exact absurd hv1 c7
      · rw [hv3]; rfl
    · have hno : actOf M cl s 0 na = none := by
        rcases hv with ⟨hv1, hv2⟩ | ⟨a, hv1, hv2, hv3⟩
        · exact hv2
        · exact absurd (Classical.not_not.mp c7) (by rw [hv1, o_ne1 _ (by omega)]; exact id)
      rcases z.2.2.2 with z | z
      · rw [hno] at z; exact absurd z (by simp)
      · have c14' : 14 ≤ na := c14
        omega
    · rw [hl1, o_i _ (by omega)]
      omega
    · have c14' : ¬ 14 ≤ na := c14
      omega
  intro b hb
  cases b
  · have nf : ¬ reqFit M cl s v na := fun z => of_decide_eq_false hb.symm ⟨z.1, z.2.1⟩
    exact bX12_request_51 ⟨fun w => absurd w (by decide), fun _ => ⟨fun _ => bX12_request_72 (bX12_request_73 ⟨fun _ => r102 nf _ _, fun w => absurd rfl w⟩), fun w => absurd rfl w⟩⟩
  · have hb' := of_decide_eq_true hb.symm
    refine bX12_request_51 ⟨fun w => absurd w (by decide), fun _ => ⟨fun w => absurd w (by decide), fun _ => ⟨by decide, q0 hr hM, x_actOf hr hM ha ha14 hz ?_ ?_⟩⟩⟩
    · intro hn0
      rw [KK_ret]
      exact bX12_request_69 (bX12_request_73 ⟨fun w => absurd w (by decide), fun _ => ⟨fun _ => r98 ⟨hb'.1, hb'.2, fun a z => by rw [hn0] at z; exact absurd z (by simp)⟩ _ _ (Or.inl ⟨rfl, hn0⟩), fun w => absurd rfl w⟩⟩)
    · intro a han hs0
      rw [KK_ret]
      refine bX12_request_69 (bX12_request_73 ⟨fun w => absurd w (by decide), fun _ => ⟨fun w => absurd w (by rw [o_ne1 _ (by omega)]; exact id), fun _ => ?_⟩⟩)
      simp (disch := omega) only [q0 hr hM, qR_44 hr hM, qK_44 hr hM, qi_44 hr hM, qA_44 hr hM, o_c, o_add, o_addn, o_nadd, o_muln, o_le, o_lt, o_nle, o_len, o_nlt, o_ltn, o_eq, o_eqn, o_neq, o_sub1, true_and]
      refine ⟨fun w => r102 (fun z => w (z.2.2 a hs0)) _ _, fun w => r98 ⟨hb'.1, hb'.2, fun a' z => ?_⟩ _ _ (Or.inr ⟨a, rfl, han, hs0⟩)⟩
      rw [hs0] at z
      rw [← Option.some.inj z]
      exact Classical.not_not.mp w
end REFR
