/-! ===== the abstract machine against the machine: worlds ===== -/
def rfo (ρ : Nat → Nat) (r : Nat) : Option Nat := if r = 0 then none else some (ρ r)
def tr (ρ : Nat → Nat) (v : Value) : Value := match v with
  | .ref r => va_rf (rfo ρ r)
  | v => v
def fvt (ρ : Nat → Nat) (h : HP) (ci a k : Nat) : Value := match ftyp ci k with
  | 0 => .int (hI h (100 * ci + k) a)
  | 1 => .float (hF h (100 * ci + k) a)
  | 3 => .int (hI h (100 * ci + k) a)
  | _ => va_rf (rfo ρ (hR h (100 * ci + k) a))
def fls (ρ : Nat → Nat) (h : HP) (ci a : Nat) : List Value := (List.range (nfld ci)).map (fvt ρ h ci a)
def acel (ca : Nat → ClassId) (ρ : Nat → Nat) (h : HP) (a t : Nat) : va_E := match t with
  | 0 => .inl (ca 0, hL h a, .inl (hAI h a))
  | 1 => .inl (ca 1, hL h a, .inl (hAI h a))
  | 2 => .inl (ca 2, hL h a, .inr (.inr (.inl (hAF h a))))
  | 3 => .inl (ca 3, hL h a, .inr (.inl (hAL h a)))
  | 4 => .inl (ca 4, hL h a, .inr (.inr (.inr (.inl (hAD h a)))))
  | t + 5 => .inl (ca (t + 5), hL h a, .inr (.inr (.inr (.inr (fun i => rfo ρ (hAR h a i))))))
def cel (ca : Nat → ClassId) (ρ : Nat → Nat) (h : HP) (a : Nat) : va_E := if hK h a < 13 then .inr (hK h a, fls ρ h (hK h a) a) else acel ca ρ h a (hK h a - 20)
def wso (ca : Nat → ClassId) (ρ : Nat → Nat) (h : HP) : va_W := (List.range (hN h - 2)).map (fun i => (ρ (i + 2), cel ca ρ h (i + 2)))
def tyO (t : Nat) : FieldType := match t with
  | 0 => .int
  | 1 => .boolean
  | 2 => .float
  | 3 => .long
  | 4 => .double
  | t + 5 => .object (clN (acl t))
def tysOf (ca : Nat → ClassId) : List (ClassId × FieldType) := (List.range 10).map (fun t => (ca t, tyO t))
theorem tys_at (ca : Nat → ClassId) {t : Nat} (h : t < 10) : (tysOf ca)[t]? = some (ca t, tyO t) := by
  simp [tysOf, h]
/-- the heap is well made -/
def HWF (h : HP) : Prop := (∀ a, hN h ≤ a → 30 ≤ hK h a) ∧ 30 ≤ hK h 0 ∧ (∀ a, hK h a = 19 ↔ a = 1) ∧ 2 ≤ hN h ∧ (∀ f a, hR h f a < hN h) ∧ (∀ a i, hAR h a i < hN h)
theorem HWF.ok {h : HP} (w : HWF h) {a : Nat} (h1 : hK h a < 30) (h2 : hK h a ≠ 19) : 2 ≤ a ∧ a < hN h := by
  obtain ⟨w1, w2, w3, -⟩ := w
  refine ⟨?_, ?_⟩
  · rcases a with _ | _ | a
    · omega
    · exact absurd ((w3 1).mpr rfl) h2
    · omega
  · rcases Nat.lt_or_ge a (hN h) with q | q
    · exact q
    · have := w1 a q; omega
theorem wso_at (ca : Nat → ClassId) (ρ : Nat → Nat) {h : HP} {a : Nat} (h1 : 2 ≤ a) (h2 : a < hN h) : (wso ca ρ h)[a - 2]? = some (ρ a, cel ca ρ h a) := by
  unfold wso
  rw [List.getElem?_map, List.getElem?_range (by omega)]
  simp only [Option.map_some, Nat.sub_add_cancel h1]
theorem wso_set (ca : Nat → ClassId) (ρ : Nat → Nat) {h h1 : HP} {a : Nat} (hn : hN h1 = hN h) (ho : ∀ b, b ≠ a → cel ca ρ h1 b = cel ca ρ h b) (h2 : 2 ≤ a) (h3 : a < hN h) : wso ca ρ h1 = (wso ca ρ h).set (a - 2) (ρ a, cel ca ρ h1 a) := by
  apply List.ext_getElem?
  intro j
  by_cases hj : j = a - 2
  · subst hj
    rw [wso_at ca ρ h2 (by omega), List.getElem?_set_self (by simp [wso]; omega)]
  · rw [List.getElem?_set_ne (Ne.symm hj)]
    unfold wso
    rw [hn]
    simp only [List.getElem?_map]
    cases hk : (List.range (hN h - 2))[j]? with
    | none => rfl
    | some k =>
      have : k = j := by
        have := (List.getElem?_eq_some_iff.mp hk).2
        simpa using this.symm
      subst this
      simp only [Option.map_some]
      rw [ho (k + 2) (by omega)]
theorem cel_agree (ca : Nat → ClassId) {ρ ρ' : Nat → Nat} {h h1 : HP} {b : Nat} (hk : hK h1 b = hK h b) (hl : hL h1 b = hL h b) (hi : ∀ f, hI h1 f b = hI h f b) (hf : ∀ f, hF h1 f b = hF h f b) (hr : ∀ f, rfo ρ' (hR h1 f b) = rfo ρ (hR h f b)) (a1 : ∀ i, hAI h1 b i = hAI h b i) (a2 : ∀ i, hAF h1 b i = hAF h b i) (a3 : ∀ i, hAL h1 b i = hAL h b i) (a4 : ∀ i, hAD h1 b i = hAD h b i) (a5 : ∀ i, rfo ρ' (hAR h1 b i) = rfo ρ (hAR h b i)) : cel ca ρ' h1 b = cel ca ρ h b := by
  unfold cel
  rw [hk]
  have e1 : hAI h1 b = hAI h b := funext a1
  have e2 : hAF h1 b = hAF h b := funext a2
  have e3 : hAL h1 b = hAL h b := funext a3
  have e4 : hAD h1 b = hAD h b := funext a4
  have e5 : (fun i => rfo ρ' (hAR h1 b i)) = (fun i => rfo ρ (hAR h b i)) := funext a5
  split
  · congr 2
    unfold fls
    congr 1
    funext k
    unfold fvt
    split <;> simp only [hi, hf, hr]
  · unfold acel
    split <;> simp only [hl, e1, e2, e3, e4, e5]
theorem fls_at (ρ : Nat → Nat) (h : HP) {ci k : Nat} (a : Nat) (hk : k < nfld ci) : (fls ρ h ci a)[k]? = some (fvt ρ h ci a k) := by
  simp [fls, hk]
theorem fls_len (ρ : Nat → Nat) (h : HP) (ci a : Nat) : (fls ρ h ci a).length = nfld ci := by simp [fls]
theorem fls_set (ρ : Nat → Nat) {h h1 : HP} {ci k a : Nat} (ho : ∀ j, j < nfld ci → j ≠ k → fvt ρ h1 ci a j = fvt ρ h ci a j) (hk : k < nfld ci) : fls ρ h1 ci a = (fls ρ h ci a).set k (fvt ρ h1 ci a k) := by
  apply List.ext_getElem?
  intro j
  by_cases hj : j = k
  · subst hj
    rw [fls_at ρ h1 a hk, List.getElem?_set_self (by rw [fls_len]; exact hk)]
  · rw [List.getElem?_set_ne (Ne.symm hj)]
    by_cases hl : j < nfld ci
    · rw [fls_at ρ h1 a hl, fls_at ρ h a hl, ho j hl hj]
    · rw [List.getElem?_eq_none (by rw [fls_len]; omega), List.getElem?_eq_none (by rw [fls_len]; omega)]
theorem rfo_up {ρ : Nat → Nat} {n q r : Nat} (h : r < n) : rfo (va_up ρ n q) r = rfo ρ r := by
  unfold rfo
  split
  · rfl
  · rw [va_up_ne _ _ (by omega)]
theorem wso_nw (ca : Nat → ClassId) (ρ : Nat → Nat) {h : HP} (w : HWF h) (k len sz q : Nat) : wso ca (va_up ρ (hN h) q) (nw h k len sz) = wso ca ρ h ++ [(q, cel ca (va_up ρ (hN h) q) (nw h k len sz) (hN h))] := by
  obtain ⟨w1, w2, w3, w4, w5, w6⟩ := w
  unfold wso
  have e : hN (nw h k len sz) - 2 = (hN h - 2) + 1 := by rw [hN_nw]; omega
  rw [e, List.range_succ, List.map_append, List.map_cons, List.map_nil]
  congr 1
  · apply List.map_congr_left
    intro i hi
    have hi : i < hN h - 2 := by simpa using hi
    have hne : i + 2 ≠ hN h := by omega
    rw [va_up_ne _ _ hne]
    congr 1
    apply cel_agree <;> intros <;> simp only [hK_nw, hL_nw, hI_nw, hF_nw, hR_nw, hAI_nw, hAF_nw, hAR_nw, hAL_nw, hAD_nw, if_neg hne]
    · exact rfo_up (w5 _ _)
    · exact rfo_up (w6 _ _)
  · rw [show hN h - 2 + 2 = hN h by omega, va_up_self]
theorem HWF.nw {h : HP} (w : HWF h) {k len sz : Nat} (hk : k < 30) (hk2 : k ≠ 19) : HWF (nw h k len sz) := by
  obtain ⟨w1, w2, w3, w4, w5, w6⟩ := w
  refine ⟨fun a ha => ?_, ?_, ?_, ?_, fun f a => ?_, fun a i => ?_⟩
  · rw [hN_nw] at ha
    rw [hK_nw, if_neg (by omega)]
    exact w1 a (by omega)
  · rw [hK_nw, if_neg (by omega)]; exact w2
  · intro a
    rw [hK_nw]
    split
    · constructor
      · intro q; exact absurd q hk2
      · intro q; omega
    · exact w3 a
  · rw [hN_nw]; omega
  · rw [hR_nw, hN_nw]; split
    · omega
    · have := w5 f a; omega
  · rw [hAR_nw, hN_nw]; split
    · omega
    · have := w6 a i; omega
/-- a value whose reference is one of the heap's -/
def VW (n : Nat) (v : Value) : Prop := match v with
  | .ref r => r < n
  | _ => True
def VS (n : Nat) (st : List Value) : Prop := ∀ v ∈ st, VW n v
theorem VW.mono {n m : Nat} (h : n ≤ m) {v : Value} (q : VW n v) : VW m v := by
  cases v with
  | ref r => exact Nat.lt_of_lt_of_le (show r < n from q) h
  | _ => trivial
theorem VS.mono {n m : Nat} (h : n ≤ m) {st : List Value} (q : VS n st) : VS m st := fun v hv => (q v hv).mono h
theorem VS.cons {n : Nat} {v : Value} {st : List Value} (h1 : VW n v) (h2 : VS n st) : VS n (v :: st) := fun w hw => by
  rcases List.mem_cons.mp hw with rfl | h
  · exact h1
  · exact h2 w h
theorem VS.tl {n : Nat} {v : Value} {st : List Value} (h : VS n (v :: st)) : VS n st := fun w hw => h w (List.mem_cons_of_mem _ hw)
theorem VS.hd {n : Nat} {v : Value} {st : List Value} (h : VS n (v :: st)) : VW n v := h v List.mem_cons_self
theorem tr_up {ρ : Nat → Nat} {n q : Nat} {v : Value} (h : VW n v) : tr (va_up ρ n q) v = tr ρ v := by
  cases v <;> simp only [tr]
  rw [rfo_up h]
theorem trs_up {ρ : Nat → Nat} {n q : Nat} {st : List Value} (h : VS n st) : st.map (tr (va_up ρ n q)) = st.map (tr ρ) := List.map_congr_left fun v hv => tr_up (h v hv)
theorem tr_ref {ρ : Nat → Nat} {a : Nat} (h : a ≠ 0) : tr ρ (.ref a) = .ref (ρ a) := by simp [tr, rfo, h, va_rf]
theorem tr_null {ρ : Nat → Nat} : tr ρ (.ref 0) = .null := by simp [tr, rfo, va_rf]
theorem c1_cat {v : Value} (h : c1 v = true) : v.category = 1 := by cases v <;> simp_all [c1, Value.category]
theorem tr_cat {ρ : Nat → Nat} {v : Value} : (tr ρ v).category = v.category := by
  cases v <;> simp only [tr]
  rename_i a
  by_cases h : a = 0 <;> simp [rfo, h, va_rf, Value.category]
/-- the locals -/
def LR (ρ : Nat → Nat) (n nL : Nat) (ls : Array Slot) (lo : Lo) : Prop := lo.length = nL ∧ ls.size = nL ∧ lv_wf ls ∧ ∀ (i : Nat) (v : Value), lo[i]? = some (some v) → c1 v = true ∧ VW n v ∧ ls[i]? = some (.val (tr ρ v))
theorem LR.up {ρ : Nat → Nat} {n m nL q : Nat} {ls : Array Slot} {lo : Lo} (h : LR ρ n nL ls lo) (hm : n ≤ m) : LR (va_up ρ n q) m nL ls lo := by
  obtain ⟨h1, h2, h3, h4⟩ := h
  refine ⟨h1, h2, h3, fun i v hv => ?_⟩
  obtain ⟨a, b, c⟩ := h4 i v hv
  exact ⟨a, b.mono hm, by rw [tr_up b]; exact c⟩
theorem LR.mono {ρ : Nat → Nat} {n m nL : Nat} {ls : Array Slot} {lo : Lo} (h : LR ρ n nL ls lo) (hm : n ≤ m) : LR ρ m nL ls lo := by
  obtain ⟨h1, h2, h3, h4⟩ := h
  exact ⟨h1, h2, h3, fun i v hv => ⟨(h4 i v hv).1, (h4 i v hv).2.1.mono hm, (h4 i v hv).2.2⟩⟩
def lvo (ρ : Nat → Nat) : Nat → Lo → List (Nat × Value)
  | _, [] => []
  | i, none :: r => lvo ρ (i + 1) r
  | i, some v :: r => (i, tr ρ v) :: lvo ρ (i + 1) r
theorem lvo_mem {ρ : Nat → Nat} : ∀ (lo : Lo) (i j : Nat) (v : Value), lo[j]? = some (some v) → (i + j, tr ρ v) ∈ lvo ρ i lo
  | [], i, j, v, h => by simp at h
  | none :: r, i, 0, v, h => by simp at h
  | some w :: r, i, 0, v, h => by
    simp at h
    subst h
    exact List.mem_cons_self
  | none :: r, i, j + 1, v, h => by
    have := lvo_mem (ρ := ρ) r (i + 1) j v (by simpa using h)
    rw [show i + (j + 1) = i + 1 + j by omega]
    exact this
  | some w :: r, i, j + 1, v, h => by
    have := lvo_mem (ρ := ρ) r (i + 1) j v (by simpa using h)
    rw [show i + (j + 1) = i + 1 + j by omega]
    exact List.mem_cons_of_mem _ this
theorem lvo_of {ρ : Nat → Nat} : ∀ (lo : Lo) (i : Nat) (q : Nat × Value), q ∈ lvo ρ i lo → ∃ (j : Nat) (v : Value), lo[j]? = some (some v) ∧ q = (i + j, tr ρ v)
  | [], i, q, h => by simp [lvo] at h
  | none :: r, i, q, h => by
    obtain ⟨j, v, h1, h2⟩ := lvo_of r (i + 1) q h
    exact ⟨j + 1, v, by simpa using h1, by rw [h2]; congr 1; omega⟩
  | some w :: r, i, q, h => by
    rcases List.mem_cons.mp h with h | h
    · exact ⟨0, w, by simp, by rw [h]; rfl⟩
    · obtain ⟨j, v, h1, h2⟩ := lvo_of r (i + 1) q h
      exact ⟨j + 1, v, by simpa using h1, by rw [h2]; congr 1; omega⟩
theorem LR.has {ρ : Nat → Nat} {n nL : Nat} {ls : Array Slot} {lo : Lo} (h : LR ρ n nL ls lo) : lv_has ls nL (lvo ρ 0 lo) := by
  obtain ⟨h1, h2, h3, h4⟩ := h
  refine ⟨h2, h3, fun q hq => ?_⟩
  obtain ⟨j, v, e1, rfl⟩ := lvo_of lo 0 q hq
  rw [Nat.zero_add]
  exact (h4 j v e1).2.2
/-- behind a store into the locals -/
theorem LR.put {ρ : Nat → Nat} {n nL i : Nat} {ls ls' : Array Slot} {lo : Lo} {v : Value} (h : LR ρ n nL ls lo) (hc : c1 v = true) (hv : VW n v)
    (h' : lv_has ls' nL ((i, tr ρ v) :: (lvo ρ 0 lo).filter (fun q => !(q.1 == i) && !(q.1 + 1 == i && q.2.category == 2)))) : LR ρ n nL ls' (lo.set i (some v)) := by
  obtain ⟨h1, h2, h3, h4⟩ := h
  obtain ⟨g1, g2, g3⟩ := h'
  refine ⟨by simpa using h1, g1, g2, fun j w hw => ?_⟩
  by_cases hj : j = i
  · subst hj
    rw [List.getElem?_set_self'] at hw
    cases hlo : lo[j]? with
    | none => rw [hlo] at hw; simp at hw
    | some z =>
      rw [hlo] at hw
      simp at hw
      subst hw
      exact ⟨hc, hv, g3 _ List.mem_cons_self⟩
  · rw [List.getElem?_set_ne (Ne.symm hj)] at hw
    obtain ⟨a, b, c⟩ := h4 j w hw
    refine ⟨a, b, g3 (j, tr ρ w) (List.mem_cons_of_mem _ (List.mem_filter.mpr ⟨?_, ?_⟩))⟩
    · have := lvo_mem (ρ := ρ) lo 0 j w hw
      rwa [Nat.zero_add] at this
    · have e : (tr ρ w).category = 1 := by rw [tr_cat]; exact c1_cat a
      simp [hj, e]
/-- a place is forgotten -/
theorem LR.drop {ρ : Nat → Nat} {n nL i : Nat} {ls ls' : Array Slot} {lo : Lo} {v : Value} (h : LR ρ n nL ls lo)
    (h' : lv_has ls' nL ((i, v) :: (lvo ρ 0 lo).filter (fun q => !(q.1 == i) && !(q.1 + 1 == i && q.2.category == 2)))) : LR ρ n nL ls' (lo.set i none) := by
  obtain ⟨h1, h2, h3, h4⟩ := h
  obtain ⟨g1, g2, g3⟩ := h'
  refine ⟨by simpa using h1, g1, g2, fun j w hw => ?_⟩
  by_cases hj : j = i
  · subst hj
    rw [List.getElem?_set_self'] at hw
    cases hlo : lo[j]? with
    | none => rw [hlo] at hw; simp at hw
    | some z => rw [hlo] at hw; simp at hw
  · rw [List.getElem?_set_ne (Ne.symm hj)] at hw
    obtain ⟨a, b, c⟩ := h4 j w hw
    refine ⟨a, b, g3 (j, tr ρ w) (List.mem_cons_of_mem _ (List.mem_filter.mpr ⟨?_, ?_⟩))⟩
    · have := lvo_mem (ρ := ρ) lo 0 j w hw
      rwa [Nat.zero_add] at this
    · have e : (tr ρ w).category = 1 := by rw [tr_cat]; exact c1_cat a
      simp [hj, e]
/-! what the tables say, at a state -/
def GT (D : va_G) (ca : Nat → ClassId) (U : State) : Prop := va_K D vwCl (tysOf ca) U ∧ (∀ t, t < 5 → va_AO (clN (acl t)) U) ∧ (∀ (o : String) (j : Nat) (z : MethodName), Cond.methodLinkNest o j z RX11 ∈ lw_tbl → va_Nw (.methodLinkNest o j z RX11) U) ∧ (∀ e, 1 ≤ e → e ≤ 3 → va_Nw (.castable (exN e) (exN e)) U) ∧ (∀ e f, 1 ≤ e → e ≤ 3 → 1 ≤ f → f ≤ 3 → e ≠ f → va_Nc (exN e) (exN f) U) ∧ (∀ k, k ∈ strT → ∃ (tx : String) (a : Nat), vk_R RX11 k tx a U) ∧ (∀ z : MethodName, Cond.declares z ∈ lw_tbl → va_Nw (.declares z) U)
theorem GT.warm {D : va_G} {ca : Nat → ClassId} {s U : State} (hW : s.WarmedH U.vm) (h : GT D ca s) : GT D ca U := by
  obtain ⟨h1, h2, h3, h4, h5, h6, h7⟩ := h
  exact ⟨va_K.moved hW.alike h1, fun t ht => (h2 t ht).moved hW.alike, fun o j z hz => va_Nw.warmM hW (h3 o j z hz), fun e a b => va_Nw.warmC hW (h4 e a b), fun e f a b c d n => (h5 e f a b c d n).moved hW.alike, fun k hk => by
    obtain ⟨tx, a, q⟩ := h6 k hk
    exact ⟨tx, a, q.warm hW⟩, fun z hz => va_Nw.warmD hW (h7 z hz)⟩
/-- the script and two statics of the JDK's, which no step writes -/
def GH (A : Nat → Prop) (b L : Nat) (xs : Nat → Int32) (U : State) (H : Heap) : Prop := va_X b L xs U H ∧ b < H.size ∧ ¬ A b ∧ vx_Zq Bundle.tN "UNASSIGNED_STACK" Bundle.steD A U H ∧ vx_Zq Bundle.tN "SUPPRESSED_SENTINEL" Bundle.listD A U H
theorem GH.kept {A : Nat → Prop} {b L : Nat} {xs : Nat → Int32} {U : State} {H H1 : Heap} (h : GH A b L xs U H) (hz : H.size ≤ H1.size) (hq : ∀ a : Nat, a < H.size → ¬ A a → H1[a]? = H[a]?) : GH A b L xs U H1 := by
  obtain ⟨h1, h2, h3, h4, h5⟩ := h
  exact ⟨h1.kept (hq b h2 h3), Nat.lt_of_lt_of_le h2 hz, h3, h4.kept hq, h5.kept hq⟩
theorem GH.moved {A : Nat → Prop} {b L : Nat} {xs : Nat → Int32} {u U : State} {H : Heap} (hvm : u.vm.Alike U.vm) (h : GH A b L xs u H) : GH A b L xs U H := by
  obtain ⟨h1, h2, h3, h4, h5⟩ := h
  exact ⟨h1.moved hvm, h2, h3, h4.moved hvm, h5.moved hvm⟩
theorem GH.narrow {A B : Nat → Prop} {b L : Nat} {xs : Nat → Int32} {U : State} {H : Heap} (h : GH A b L xs U H) (hAB : ∀ q, B q → A q) : GH B b L xs U H := by
  obtain ⟨h1, h2, h3, h4, h5⟩ := h
  exact ⟨h1, h2, fun q => h3 (hAB b q), h4.narrow hAB, h5.narrow hAB⟩
/-- what holds all along a method's walk -/
def CX (p : Program) (l : Launch) (s : State) (m : MethodId) (args : Array Value) (meth : Method) (c : Code) (A : Nat → Prop) (D : va_G) (ca : Nat → ClassId) (y : MI) (b L : Nat) (xs : Nat → Int32) : Prop :=
  p.tables.exec = Jvm.exec ∧ c.code = mCode y ∧ c.maxLocals = mML y ∧ s.vm.findClass (ownR (mOwn y)) = some m.cls ∧ (∀ w ∈ ALLW, w.before args s = true) ∧ meth.locks = false ∧ meth.sig.returnType = mRet y ∧ c.exceptionTable.toList = tableOf (mHH y) ∧ (mIni y = true → meth.name = "<init>") ∧ GT D ca s ∧ GH A b L xs s s.heap ∧ (∀ q : Nat, s.heap.size ≤ q → A q) ∧ l.stackTraces = false
/-- the heap at a point -/
def ST (ca : Nat → ClassId) (D : va_G) (A : Nat → Prop) (b L : Nat) (xs : Nat → Int32) (ρ : Nat → Nat) (h : HP) (s : State) (H : Heap) (locs : List Loc) : Prop :=
  va_P D vwCl (wso ca ρ h) H ∧ va_D A (wso ca ρ h) ∧ va_S A s.heap H locs ∧ HWF h ∧ ρ 1 = b ∧ hL h 1 = L ∧ ∀ i, i < L → hAI h 1 i = xs i
def WS (p : Program) (l : Launch) (e : Env) (R : Room) (s : State) (m : MethodId) (args : Array Value) (below : List Frame) (meth : Method) (c : Code) (A : Nat → Prop) (D : va_G) (ca : Nat → ClassId) (y : MI) (b L : Nat) (xs : Nat → Int32) (B1 B2 : Nat) (Q : State → Prop) (ρ0 : Nat → Nat) (n0 : Nat) (pc : Nat) (lo : Lo) (st : List Value) (h : HP) : Prop :=
  ∀ (ρ : Nat → Nat) (H : Heap) (locs : List Loc) (cells slots : Nat) (ls : Array Slot), (∀ a, a < n0 → ρ a = ρ0 a) → n0 ≤ hN h → ST ca D A b L xs ρ h s H locs → LR ρ (hN h) (mML y) ls lo → VS (hN h) st → cells + B1 = hC h → slots + B2 = hZ h → W p l e R s m args below meth c H locs cells slots Q (F0 m pc ls (st.map (tr ρ)))
