/-! ===== the law: what is common to its calls ===== -/
section LAW1
variable {d n : Nat} {y z : MI} {pc : Nat} {lo : Lo} {stk : List Value} {h h' : HP} {Q : Out → HP → Prop} {S S' : SI} {F F' : SF} {e : EX} {X : MX} {M : SI} {G : SF} {c : Nat × Nat × Nat × (Nat → Int32)} {st na : Nat} {g : YG} {pa : Nat → ZA} {pv : Nat → ZV} {e1 : Int32} {e3 : RW × UInt32}
theorem ex_more {r : Out × HP} : ∀ (k : Nat), ex n d y pc lo stk h = some r → ex (n + k) d y pc lo stk h = some r := by
  intro k
  induction k with
  | zero => exact id
  | succ k ih => exact fun q => ex_mono _ _ _ _ _ _ _ _ (ih q)
theorem ex_det {m : Nat} {r r' : Out × HP} (p : ex n d y pc lo stk h = some r) (q : ex m d y pc lo stk h = some r') : r = r' := by
  have p' := ex_more m p
  have q' := ex_more n q
  rw [Nat.add_comm m n] at q'
  exact Option.some.inj (p'.symm.trans q')
/-- the value that the call gives, chosen beforehand -/
theorem WP_pick {α : Type} (f : α → Out) (a : α) (inj : ∀ u v, f u = f v → u = v) {P : α → Out → HP → Prop} (hP : ∀ v, WP d y pc lo stk h (P v)) : ∃ v, WP d y pc lo stk h (fun o h' => P v o h' ∧ ∀ u, o = f u → u = v) := by
  obtain ⟨n1, o1, h1, r1, p1⟩ := hP a
  by_cases w : ∃ u, o1 = f u
  · obtain ⟨u, hu⟩ := w
    obtain ⟨n2, o2, h2, r2, p2⟩ := hP u
    have e := ex_det r1 r2
    cases e
    exact ⟨u, n2, o1, h1, r2, p2, fun v hv => inj _ _ (hv.symm.trans hu)⟩
  · exact ⟨a, n1, o1, h1, r1, p1, fun u hu => absurd ⟨u, hu⟩ w⟩
def oI (v : Int32) : Out := .inl (some (.int v))
def oF (v : UInt32) : Out := .inl (some (.float v))
theorem oI_inj : ∀ u v, oI u = oI v → u = v := fun u v w => by cases w; rfl
theorem oF_inj : ∀ u v, oF u = oF v → u = v := fun u v w => by cases w; rfl
theorem KK_hdl {rest : List Value} {x : Nat} {pc' : Nat} {lo' : Lo} (hz : mHH z = []) (hi : mIni z = false) (hh : hdl y pc x lo = some (pc', lo')) (k : WP (d + 1) y pc' lo' [] h' Q) : KK d y z pc lo rest Q (.inr x) h' := by
  show (if (mHH z).isEmpty = true ∧ mIni z = false then _ else False)
  rw [if_pos ⟨by rw [hz]; rfl, hi⟩]
  have hn : hnd y pc x ≠ none := fun w => by
    unfold hdl at hh
    rw [w] at hh
    cases hh
  cases q : hnd y pc x with
  | none => exact absurd q hn
  | some b =>
    show (match hdl y pc x lo with | some (pc', lo') => WP (d + 1) y pc' lo' [] h' Q | none => False)
    rw [hh]
    exact k
theorem i_addsub (a b : Int32) : b + (a - b) = a := by rw [Int32.add_comm, Int32.sub_add_cancel]
theorem rc_swap (hr : RC S F (e1, 0, e3) X h) (hS : ∀ s k, s < 48 → s ≠ 40 → S' s k = S s k) : ∃ e1', RC S' F (e1', 0, e3) X h := by
  refine ⟨S 40 0 + e1 - S' 40 0, ?_⟩
  have e : S' = fun s k => if s < 48 ∧ s ≠ 40 then S s k else S' s k := by
    funext s k
    by_cases q : s < 48 ∧ s ≠ 40
    · rw [if_pos q]; exact hS s k q.1 q.2
    · rw [if_neg q]
  have e40 := i_addsub (S 40 0 + e1) (S' 40 0)
  generalize S 40 0 + e1 - S' 40 0 = E at e40 ⊢
  rw [e]
  obtain ⟨hs, hrow, hm, hl, hle, hc, hn, hh, hg⟩ := hr
  exact ⟨hs, hrow, hm, hl, hle, hc, ⟨hn.1, hn.2.1, hn.2.2.1.trans e40.symm, hn.2.2.2⟩, hh, hg⟩
/-- the whole number of the class is put down -/
theorem rc_outL (hr : RC S F e (M, G, c) h) (v : Int32) : RC S F e (u2 M 1001 0 v, G, c) (sAL h 253 0 (Int32.toInt64 v)) := by
  obtain ⟨hs, hrow, hm, hl, hle, hc, hn, hh, hg, g1, g2, g3, g4, g5, g6, g7, g8⟩ := hr
  refine ⟨hs, hrow, hm, hl, hle, hc, hn, hh, hg, g1, g2, g3, g4, g5, g6, g7, fun K => ⟨(g8 K).1, fun K2 => ?_⟩⟩
  obtain ⟨b1, b2, b3, b4, b5, b6, b7⟩ := (g8 K).2 K2
  refine ⟨b1, b2, b3, b4, b5, ?_, b7⟩
  rw [hAL_sAL, if_pos ⟨rfl, rfl⟩]
  rfl
theorem rc_outD (hr : RC S F e (M, G, c) h) (w : UInt32) : RC S F e (M, u2 G 1001 0 w, c) (sAD h 254 0 (FP.f2d w)) := by
  obtain ⟨hs, hrow, hm, hl, hle, hc, hn, hh, hg, g1, g2, g3, g4, g5, g6, g7, g8⟩ := hr
  refine ⟨hs, hrow, hm, hl, hle, hc, hn, hh, hg, g1, g2, g3, g4, g5, g6, g7, fun K => ⟨(g8 K).1, fun K2 => ?_⟩⟩
  obtain ⟨b1, b2, b3, b4, b5, b6, b7⟩ := (g8 K).2 K2
  refine ⟨b1, b2, b3, b4, b5, b6, ?_⟩
  rw [hAD_sAD, if_pos ⟨rfl, rfl⟩]
  rfl
theorem INV.cg (h : INV st n na g pa pv S F) (e : ∀ s k, s < 48 → S' s k = S s k) : INV st n na g pa pv S' F := by
  have ef : ∀ s, s < 48 → S' s = S s := fun s q => funext fun k => e s k q
  have eb : blS S' = blS S := by
    funext d a
    unfold blS
    rw [ef 27 (by decide)]
  refine INV.pax (m := 0) (d := 0) h (fun r k _ _ _ q _ => e r k q) (fun _ _ _ => rfl) (by decide) ?_ (fun _ _ => ⟨rfl, rfl⟩) ?_ ?_
  · have q := h.2.2.2.2.1 0 (by decide)
    unfold PAX PAC PRO at q ⊢
    rw [eb, ef 28 (by decide), ef 29 (by decide), ef 30 (by decide), ef 31 (by decide), ef 32 (by decide), ef 33 (by decide), ef 34 (by decide), ef 35 (by decide), ef 36 (by decide)]
    exact q
  · have q := h.2.2.2.2.2.1
    unfold CHZ at q ⊢
    rw [ef 33 (by decide), ef 34 (by decide), ef 35 (by decide), ef 36 (by decide)]
    exact q
  · rw [eb]
    exact h.2.2.2.2.2.2.2.2.1.same (e 39 0 (by decide)) (ef 37 (by decide)) rfl
theorem INV.cgF (h : INV st n na g pa pv S F) (w : UInt32) : INV st n na g pa pv S (u2 F 1001 0 w) := h
/-- between two calls of the law -/
def LI (L : Nat) (xs : Nat → Int32) (Z0 i : Nat) (h : HP) : Prop := ∃ e1 e3 M G C Z n na g pa pv, RC M G (e1, 0, e3) (M, G, C, Z, L, xs) h ∧ M 1000 0 = 0 ∧ M 1002 0 = 0 ∧ INV i n na g pa pv M G ∧ C ≤ 253 + i ∧ Z ≤ Z0 + 6 * i
abbrev lwL (i : Nat) (u6 u7 : Option Value) : Lo := [some (.ref 1), some (.ref 2), some (.ref 210), some (.ref 253), some (.ref 254), some (.int (Int32.ofNat (5 * i))), u6, u7]
/-- the law goes on -/
def GO (L : Nat) (xs : Nat → Int32) (Z0 d i : Nat) (Q : Out → HP → Prop) : Prop := ∀ h u6 u7, LI L xs Z0 i h → WP d mL_law 28 (lwL i u6 u7) [] h Q
theorem lg_eq (x : Int64) : lg_cmp x x = 0 := by unfold lg_cmp; simp
/-- where S is as M but for M 50 -/
def sAt (M : SI) (v : Int32) : SI := u2 (u2 M 1001 0 v) 50 0 0
theorem rc_at {v : Int32} (hr : RC M F e X h) : RC (sAt M v) F e X h := by
  obtain ⟨hs, hrow, hm, hl, hle, hc, hn, hh, hg⟩ := hr
  exact ⟨hs, hrow, hm, hl, hle, hc, hn, hh, hg⟩
theorem INV.at {v : Int32} (h : INV st n na g pa pv M F) : INV st n na g pa pv (sAt M v) F := h.cg (fun s k q => by unfold sAt; rw [u2_ne (by omega), u2_ne (by omega)])
end LAW1
