/-! ===== calls ===== -/
theorem tr_agree {ρ ρ' : Nat → Nat} {n : Nat} (ha : ∀ a, a < n → ρ' a = ρ a) {v : Value} (h : VW n v) : tr ρ' v = tr ρ v := by
  cases v <;> simp only [tr]
  rename_i r
  have hr : r < n := h
  unfold rfo
  split
  · rfl
  · rw [ha r hr]
theorem trs_agree {ρ ρ' : Nat → Nat} {n : Nat} (ha : ∀ a, a < n → ρ' a = ρ a) {st : List Value} (h : VS n st) : st.map (tr ρ') = st.map (tr ρ) := List.map_congr_left fun v hv => tr_agree ha (h v hv)
theorem LR.agree {ρ ρ' : Nat → Nat} {n k nL : Nat} {ls : Array Slot} {lo : Lo} (h : LR ρ n nL ls lo) (ha : ∀ a, a < n → ρ' a = ρ a) (hk : n ≤ k) : LR ρ' k nL ls lo := by
  obtain ⟨h1, h2, h3, h4⟩ := h
  refine ⟨h1, h2, h3, fun i v hv => ?_⟩
  obtain ⟨a, b, c⟩ := h4 i v hv
  exact ⟨a, b.mono hk, by rw [tr_agree ha b]; exact c⟩
theorem cll_spec {y z : MI} {k : Nat} {st as rest : List Value} (q : cll y k st = some (.inr (.inl (z, as, rest)))) : z = y ∧ as.length = k ∧ rest.length ≤ 4 ∧ rest.all c1 = true ∧ as.all c1 = true ∧ st = as.reverse ++ rest := by
  unfold cll at q
  obtain ⟨h1, h2⟩ := gL_some q
  simp only [Bool.and_eq_true, decide_eq_true_eq] at h1
  cases h2
  obtain ⟨⟨a, b⟩, c⟩ := h1
  refine ⟨rfl, by rw [List.length_reverse, List.length_take]; omega, by rw [List.length_drop]; omega, ?_, ?_, ?_⟩
  · exact List.all_eq_true.mpr fun v hv => List.all_eq_true.mp c v (List.mem_of_mem_drop hv)
  · exact List.all_eq_true.mpr fun v hv => List.all_eq_true.mp c v (List.mem_of_mem_take (List.mem_reverse.mp hv))
  · rw [List.reverse_reverse, List.take_append_drop]
section SND7
variable {p : Program} {l : Launch} {e : Env} {R : Room} {s : State} {m : MethodId} {args : Array Value} {below : List Frame} {meth : Method} {c : Code} {A : Nat → Prop} {D : va_G} {ca : Nat → ClassId} {y : MI} {b L : Nat} {xs : Nat → Int32} {B1 B2 : Nat} {Q : State → Prop} {ρ0 : Nat → Nat} {n0 : Nat}
variable {H : Heap} {locs : List Loc} {cells slots mc ms : Nat} {pc : Nat} {ls : Array Slot} {st0 rest : List Value} {Qa : State → Outcome → State → Prop} {A0 A1 : Nat → Prop} {H0 : Heap} {free : Addr → Prop}
/-- a call that returns, whatever the answer -/
theorem callG (hr : va_Run p l e R s m args below meth c H locs cells slots mc ms (F0 m pc ls st0) rest Qa free) (hS : va_S A0 H0 H locs) (hA : ∀ q, q < H.size → A1 q → A0 q) (hf : ∀ q, free q → A0 q) (hF : ∀ st oc t, Qa st oc t → va_F A1 st t)
    (kk : ∀ (v : Option Value) (st₀ t : State) (H1 : Heap) (locs1 : List Loc), Qa st₀ (.returned v) t → t.heap = H1 → va_S A0 H0 H1 locs1 → W p l e R s m args below meth c H1 locs1 (cells + mc) (slots + ms) Q (F0 m (pc + 3) ls (v.toList ++ rest))) : W p l e R s m args below meth c H locs cells slots Q (F0 m pc ls st0) := by
  intro T hT X
  obtain ⟨v, st₀, t, T', L, h0, X', hL, e1, e2, hq, st⟩ := hr T hT X
  obtain ⟨k1, k2, k3⟩ := vx_keep h0 e1 hS hA hf hL (hF _ _ _ hq)
  obtain ⟨t2, a1, b1⟩ := kk v st₀ t T'.heap (locs ++ L) hq e1.symm k3 T' rfl X'
  exact ⟨t2, st t2 a1, b1⟩
/-- a call that throws -/
theorem callX {XC : String → State → State → Prop} (hr : vx_Run p l e R s m args below meth c H locs cells slots mc ms (F0 m pc ls st0) rest Qa XC free) (hS : va_S A0 H0 H locs) (hA : ∀ q, q < H.size → A1 q → A0 q) (hf : ∀ q, free q → A0 q) (hQ : ∀ st oc t, ¬ Qa st oc t) (hF : ∀ E st t, XC E st t → va_F A1 st t)
    (kx : ∀ (E : String) (ce : Cell) (q9 : Addr) (st₀ t : State) (H1 : Heap) (locs1 : List Loc), XC E st₀ t → t.heap = H1 → va_S A0 H0 H1 locs1 → H1[q9]? = some ce → ce.vm = .none → s.vm.findClass E = some ce.cls → vx_W p l e R s m args below meth c H1 locs1 (cells + mc) (slots + ms) Q (F0 m pc ls rest) q9) : W p l e R s m args below meth c H locs cells slots Q (F0 m pc ls st0) := by
  intro T hT X
  rcases hr T hT X with ⟨v, st₀, t, T', L, h0, X', hL, e1, e2, hq, st⟩ | ⟨q, st₀, t, T', L, E, ce, h0, X', hL, e1, e2, hx, hce, hcv, hcl, st⟩
  · exact absurd hq (hQ _ _ _)
  · obtain ⟨k1, k2, k3⟩ := vx_keep h0 e1 hS hA hf hL (hF _ _ _ hx)
    obtain ⟨t2, a1, b1⟩ := kx E ce q st₀ t T'.heap (locs ++ L) hx e1.symm k3 (by rw [e1]; exact hce) hcv hcl T' rfl X'
    exact ⟨t2, st.trans a1, b1⟩
end SND7
theorem met_of_vx {l : Launch} {y : MethodName} {ws : List Cond} {rm : Room} {Pc : Array Value → State → Prop} {Qc : Array Value → State → Outcome → State → Prop} {XC : String → State → State → Prop} {mc ms : Nat} {free : Addr → Prop} (h : vx_Met l y ws rm Pc Qc XC mc ms free) (hX : ∀ E st t, ¬ XC E st t) : Met l y ws rm Pc Qc mc ms free := by
  intro p e ha hc hk s m args below hf happ hP hK
  obtain ⟨n, o, h1, h2, h3, h4⟩ := h p e ha hc hk s m args below hf happ hP hK
  refine ⟨n, o, h1, h2, h3, ?_⟩
  rcases h4 with h4 | ⟨q, -, E, ce, L, hx, -⟩
  · exact h4
  · exact absurd hx (hX _ _ _)
/-- which answer an end instruction gives -/
def retI (y : MI) (i : Instr) (v : Option Value) : Bool := match i, v with
  | .ireturn, some (.int x) => rok (mRet y) (some (.int x))
  | .freturn, some (.float x) => rok (mRet y) (some (.float x))
  | .areturn, some (.ref x) => rok (mRet y) (some (.ref x))
  | .return_, none => rok (mRet y) none
  | _, _ => false
def FRet (p : Program) (l : Launch) (e : Env) (R : Room) (s : State) (m : MethodId) (args : Array Value) (below : List Frame) (meth : Method) (c : Code) (A : Nat → Prop) (D : va_G) (ca : Nat → ClassId) (y : MI) (b L : Nat) (xs : Nat → Int32) (B1 B2 : Nat) (Q : State → Prop) (ρ0 : Nat → Nat) (n0 : Nat) (o : Out) (h' : HP) : Prop :=
  ∀ (v : Option Value), o = .inl v → ∀ (i : Instr) (pc' : Nat) (lo' : Lo), decode (mCode y) pc' = .ok (i, 1) → retI y i v = true → WS p l e R s m args below meth c A D ca y b L xs B1 B2 Q ρ0 n0 pc' lo' v.toList h'
def FThr (p : Program) (l : Launch) (e : Env) (R : Room) (s : State) (m : MethodId) (args : Array Value) (below : List Frame) (meth : Method) (c : Code) (A : Nat → Prop) (D : va_G) (ca : Nat → ClassId) (y : MI) (b L : Nat) (xs : Nat → Int32) (B1 B2 : Nat) (Q : State → Prop) (ρ0 : Nat → Nat) (n0 : Nat) (o : Out) (h' : HP) : Prop :=
  ∀ (x : Nat), o = .inr x → ∀ (pc' : Nat) (lo' : Lo) (st' : List Value) (h0 : HP) (j : Nat), h' = thr h0 → decode (mCode y) pc' = .ok (.new j, 3) → thw y pc' j = some x → st'.length ≤ 4 → st'.all c1 = true → (mHH y).isEmpty = true → WS p l e R s m args below meth c A D ca y b L xs B1 B2 Q ρ0 n0 pc' lo' st' h0
def FPro (p : Program) (l : Launch) (e : Env) (R : Room) (s : State) (m : MethodId) (args : Array Value) (below : List Frame) (meth : Method) (c : Code) (A : Nat → Prop) (D : va_G) (ca : Nat → ClassId) (y : MI) (b L : Nat) (xs : Nat → Int32) (B1 B2 : Nat) (Q : State → Prop) (ρ0 : Nat → Nat) (n0 : Nat) (o : Out) (h' : HP) : Prop :=
  ∀ (x : Nat), o = .inr x → (mHH y).isEmpty = true → ∀ (ρ : Nat → Nat) (H : Heap) (locs : List Loc) (cells slots : Nat) (ls : Array Slot) (pc' : Nat) (rest : List Value) (qa : Addr) (ce : Cell), 1 ≤ x → x ≤ 3 → (∀ a, a < n0 → ρ a = ρ0 a) → n0 ≤ hN h' → ST ca D A b L xs ρ h' s H locs → cells + B1 = hC h' → slots + B2 = hZ h' → H[qa]? = some ce → ce.vm = .none → s.vm.findClass (exN x) = some ce.cls → ls.size = mML y → vx_W p l e R s m args below meth c H locs cells slots Q (F0 m pc' ls rest) qa
def INN (n : Nat) : Prop := ∀ (d : Nat) (y : MI) (pc : Nat) (lo : Lo) (st : List Value) (h : HP) (o : Out) (h' : HP), ex n d y pc lo st h = some (o, h') → ∀ (p : Program) (l : Launch) (e : Env) (R : Room) (s : State) (m : MethodId) (args : Array Value) (below : List Frame) (meth : Method) (c : Code) (A : Nat → Prop) (D : va_G) (ca : Nat → ClassId) (b L : Nat) (xs : Nat → Int32) (B1 B2 : Nat) (Q : State → Prop) (ρ0 : Nat → Nat) (n0 : Nat),
  CX p l s m args meth c A D ca y b L xs → (d + 8 ≤ R.frames ∧ 100 + 40 * d ≤ R.locals) → (hC h' ≤ R.cells + B1 ∧ hZ h' ≤ R.slots + B2) → FRet p l e R s m args below meth c A D ca y b L xs B1 B2 Q ρ0 n0 o h' → FThr p l e R s m args below meth c A D ca y b L xs B1 B2 Q ρ0 n0 o h' → FPro p l e R s m args below meth c A D ca y b L xs B1 B2 Q ρ0 n0 o h' → WS p l e R s m args below meth c A D ca y b L xs B1 B2 Q ρ0 n0 pc lo st h
theorem lgsl_c1 {ρ : Nat → Nat} : ∀ {as : List Value}, as.all c1 = true → lg_sl (as.map (tr ρ)) = (as.map (tr ρ)).map Slot.val
  | [], _ => rfl
  | v :: r, h => by
    simp only [List.all_cons, Bool.and_eq_true] at h
    have e : ¬ (tr ρ v).category = 2 := by rw [tr_cat, c1_cat h.1]; decide
    have ih := lgsl_c1 (ρ := ρ) (as := r) h.2
    unfold lg_sl at ih ⊢
    rw [List.map_cons, List.flatMap_cons, if_neg e, ih]
    rfl
theorem lvargs_c1 {ρ : Nat → Nat} : ∀ {as : List Value} (i j : Nat) (v : Value), as.all c1 = true → as[j]? = some v → (i + j, tr ρ v) ∈ lv_args i (as.map (tr ρ))
  | [], i, j, v, _, h => by simp at h
  | w :: r, i, 0, v, hc, h => by
    simp at h
    subst h
    exact List.mem_cons_self
  | w :: r, i, j + 1, v, hc, h => by
    simp only [List.all_cons, Bool.and_eq_true] at hc
    have e : ¬ (tr ρ w).category = 2 := by rw [tr_cat, c1_cat hc.1]; decide
    have ih := lvargs_c1 (ρ := ρ) (as := r) (i + 1) j v hc.2 (by simpa using h)
    rw [List.map_cons]
    unfold lv_args
    rw [if_neg e, show i + (j + 1) = i + 1 + j by omega]
    exact List.mem_cons_of_mem _ ih
theorem LR_ent {ρ : Nat → Nat} {n : Nat} {y : MI} {as : List Value} (hc : as.all c1 = true) (hl : as.length ≤ mML y) (hv : VS n as) : LR ρ n (mML y) ((lg_sl (as.map (tr ρ)) ++ List.replicate (mML y - (lg_sl (as.map (tr ρ))).length) Slot.unset).toArray) (ent y as) := by
  have h1 := lv_entry (as.map (tr ρ)) (n := mML y) (by rw [lgsl_c1 hc]; simpa using hl)
  obtain ⟨g1, g2, g3⟩ := h1
  refine ⟨by simp [ent]; omega, g1, g2, fun i v hi => ?_⟩
  have hia : as[i]? = some v := by
    unfold ent at hi
    by_cases q : i < as.length
    · rw [List.getElem?_append_left (by simpa using q), List.getElem?_map] at hi
      cases ha : as[i]? with
      | none => rw [ha] at hi; simp at hi
      | some w => rw [ha] at hi; simpa using hi
    · rw [List.getElem?_append_right (by simpa using q)] at hi
      have := List.mem_of_getElem? hi
      simp at this
  have hm := List.mem_of_getElem? hia
  refine ⟨List.all_eq_true.mp hc v hm, hv v hm, ?_⟩
  have := lvargs_c1 (ρ := ρ) 0 i v hc hia
  rw [Nat.zero_add] at this
  exact g3 _ this
theorem exn_fit : ∀ x, 1 ≤ x → x ≤ 3 → Bundle.fit (exN x) = true
  | 0, h, _ => absurd h (by omega)
  | 1, _, _ => by decide +kernel
  | 2, _, _ => by decide +kernel
  | 3, _, _ => by decide +kernel
  | n + 4, _, h => absurd h (by omega)
theorem con_of {n d : Nat} {y : MI} {as : List Value} {h h' : HP} {o : Out} {l : Launch} (hI : INN n) (hex : ex n d y 0 (ent y as) [] h = some (o, h')) (hy : mtdP y) (hc : as.all c1 = true) (hlen : as.length ≤ mML y) (hl : l.stackTraces = false) : CON l d y as h o h' := by
  intro ca D b L xs ρ0 sz mc ms hVS hmc hms
  obtain ⟨y1, y2, y3, y4, y5, y6, y7, y8, y9⟩ := hy
  have body : ∀ (p : Program) (e : Env) (s : State) (m : MethodId) (args : Array Value) (below : List Frame) (meth : Method) (c : Code) (s₁ : State), BodyLoose p l (mNm y) (headSpec (wsm y) (rmOf d mc ms)) (mCode y) (mML y) (mRet y) e s m args below meth c s₁ → c.maxLocals = mML y → c.exceptionTable.toList = tableOf (mHH y) → PQ ca D b L xs ρ0 h as sz args s →
      W p l e (rmOf d mc ms) s m args below meth c s.heap [] 0 0 (vx_MQ below (RQ ca D (va_A (wso ca ρ0 h) sz) b L xs ρ0 (hN h) o h') (RX ca D (va_A (wso ca ρ0 h) sz) b L xs ρ0 (hN h) o h') args s mc ms (va_A (wso ca ρ0 h) sz)) (entryFrame m args (mML y)) := by
    intro p e s m args below meth c s₁ B hml hexc hPQ
    obtain ⟨rfl, hsz, hP, hD, hwf, hr1, hr2, hr3, hGT, hGH⟩ := hPQ
    have hts : ∀ w ∈ wsm y, w.before _ s = true := atoms_spec (ws := wsm y) B.pre
    subst hsz
    have C : CX p l s m _ meth c (va_A (wso ca ρ0 h) s.heap.size) D ca y b L xs := ⟨B.exec, B.bytes, hml, by rw [← y2]; exact findClass_of_methodNamed B.named, fun w hw => hts w (List.mem_cons_of_mem _ hw), B.notSynchronized, B.returns, hexc, fun hi => by rw [(name_of_methodNamed B.named B.method).1]; exact y7 hi, hGT, hGH, fun q hq => Or.inr hq, hl⟩
    have hFR : FRet p l e (rmOf d mc ms) s m (as.map (tr ρ0)).toArray below meth c (va_A (wso ca ρ0 h) s.heap.size) D ca y b L xs (hC h) (hZ h) (vx_MQ below (RQ ca D (va_A (wso ca ρ0 h) s.heap.size) b L xs ρ0 (hN h) o h') (RX ca D (va_A (wso ca ρ0 h) s.heap.size) b L xs ρ0 (hN h) o h') (as.map (tr ρ0)).toArray s mc ms (va_A (wso ca ρ0 h) s.heap.size)) ρ0 (hN h) o h' := by
      intro v ho i pc' lo' hd hri ρ H locs cells slots ls hρ hn0 hST hLR hV e1 e2
      obtain rfl : cells = mc := by omega
      obtain rfl : slots = ms := by omega
      refine vx_ret ?_
      have hq : ∀ t : State, t.heap = H → s.WarmedH t.vm → RQ ca D (va_A (wso ca ρ0 h) s.heap.size) b L xs ρ0 (hN h) o h' (as.map (tr ρ0)).toArray s (.returned (v.map (tr ρ))) t := fun t ht _ => ⟨⟨v, ρ, ho, rfl, hV, hρ, hn0, by rw [ht]; exact hST.1, hST.2.1, hST.2.2.2⟩, hST.2.2.1.F ht⟩
      have hrt := B.returns
      unfold retI at hri
      split at hri
      · unfold rok at hri
        split at hri <;> first | (rename_i q1 q2; cases q2) | skip
        · rename_i q1 q2
          exact W.zret B.exec B.bytes (by rw [hrt, q1]) rfl hq hST.2.2.1.2.2 hd B.notSynchronized
        · rename_i q1 q2
          exact W.zret B.exec B.bytes (by rw [hrt, q1]) (isZ_nar hri).2 hq hST.2.2.1.2.2 hd B.notSynchronized
        all_goals cases hri
      · unfold rok at hri
        split at hri <;> first | (rename_i q1 q2; cases q2) | skip
        · rename_i q1 q2
          exact W.fret B.exec B.bytes (by rw [hrt, q1]) hq hST.2.2.1.2.2 hd B.notSynchronized
        all_goals cases hri
      · unfold rok at hri
        split at hri <;> first | (rename_i q1 q2; cases q2) | skip
        · rename_i q1 q2
          refine W.aret B.exec B.bytes (by rw [hrt, q1]) (Or.inl ⟨_, rfl⟩) ?_ hq hST.2.2.1.2.2 hd B.notSynchronized
          rename_i x9 _ _
          by_cases hx0 : x9 = 0
          · subst hx0; exact Or.inl tr_null
          · exact Or.inr ⟨_, tr_ref hx0⟩
        all_goals cases hri
      · unfold rok at hri
        split at hri <;> first | (rename_i q1 q2; cases q2) | skip
        · rename_i q1 q2
          exact W.vret B.exec B.bytes (by rw [hrt, q1]) hq hST.2.2.1.2.2 hd B.notSynchronized
        all_goals cases hri
      · cases hri
    have hFT : FThr p l e (rmOf d mc ms) s m (as.map (tr ρ0)).toArray below meth c (va_A (wso ca ρ0 h) s.heap.size) D ca y b L xs (hC h) (hZ h) (vx_MQ below (RQ ca D (va_A (wso ca ρ0 h) s.heap.size) b L xs ρ0 (hN h) o h') (RX ca D (va_A (wso ca ρ0 h) s.heap.size) b L xs ρ0 (hN h) o h') (as.map (tr ρ0)).toArray s mc ms (va_A (wso ca ρ0 h) s.heap.size)) ρ0 (hN h) o h' := by
      intro x ho pc' lo' st' h0 j he hd0 hthw hsl hsc hhe ρ H locs cells slots ls hρ hn0 hST hLR hV e1 e2
      subst he
      obtain ⟨d3, k, q, hx, dd⟩ := thw_spec hthw
      obtain ⟨hoc, hks, hcases⟩ := xres_ok hx
      have hown : s.vm.findClass RX11 = some m.cls := by
        have := C.2.2.2.1
        rw [hoc] at this
        exact this
      obtain ⟨tx, sa, hvk⟩ := hGT.2.2.2.2.2.1 k hks
      rw [hC_thr] at hmc
      rw [hZ_thr] at hms
      rcases hcases with ⟨rfl, rfl, rfl⟩ | ⟨rfl, rfl, rfl⟩ | ⟨rfl, rfl, rfl⟩
      · rcases dd with ⟨d4, d6, d9⟩ | ⟨d4, d6, d9⟩
        · refine vx_throwS B.exec B.bytes hl hown (exn_fit 1 (by omega) (by omega)) (names := ["java/lang/RuntimeException", "java/lang/Exception"]) (by decide +kernel) (hts _ (List.mem_cons_of_mem _ wx_k1)) (hts _ (List.mem_cons_of_mem _ wx_i1)) hvk (hat_of hGT (fun w hw => hts w (List.mem_cons_of_mem _ hw)) wx_a1 wx_b1) wx_g1 hGH.2.2.2.1 hGH.2.2.2.2 hST.2.2.1 (by rw [hml]; exact hLR.2.1) hd0 d3 d4 d6 d9 (fun z hz => by rw [hexc, List.isEmpty_iff.mp hhe] at hz; cases hz) (by show 2 + 3 < d + 8; omega) (by rw [cats hsc]; show _ + (13 * (2 + 1) + 43) ≤ 100 + 40 * d; omega) (by show cells + 1 ≤ mc; omega) (by show slots + 6 ≤ ms; omega) B.notSynchronized (fun t hal hz hk => ?_) hST.2.2.1.2.2 (by omega) (by omega)
          exact ⟨⟨1, ρ, ho, by omega, by omega, rfl, hρ, hn0, hST.1.kept (fun k q hq => hk q.1 (hST.1 k q hq).lt), hST.2.1, hST.2.2.2⟩, Nat.le_trans hST.2.2.1.1 hz, fun q h1 h2 => (hk q (Nat.lt_of_lt_of_le h1 hST.2.2.1.1)).trans (hST.2.2.1.2.1 q h1 h2)⟩
        · refine vx_throwSW B.exec B.bytes hl hown (exn_fit 1 (by omega) (by omega)) (names := ["java/lang/RuntimeException", "java/lang/Exception"]) (by decide +kernel) (hts _ (List.mem_cons_of_mem _ wx_k1)) (hts _ (List.mem_cons_of_mem _ wx_i1)) hvk (hat_of hGT (fun w hw => hts w (List.mem_cons_of_mem _ hw)) wx_a1 wx_b1) wx_g1 hGH.2.2.2.1 hGH.2.2.2.2 hST.2.2.1 (by rw [hml]; exact hLR.2.1) hd0 d3 d4 d6 d9 (fun z hz => by rw [hexc, List.isEmpty_iff.mp hhe] at hz; cases hz) (by show 2 + 3 < d + 8; omega) (by rw [cats hsc]; show _ + (13 * (2 + 1) + 43) ≤ 100 + 40 * d; omega) (by show cells + 1 ≤ mc; omega) (by show slots + 6 ≤ ms; omega) B.notSynchronized (fun t hal hz hk => ?_) hST.2.2.1.2.2 (by omega) (by omega)
          exact ⟨⟨1, ρ, ho, by omega, by omega, rfl, hρ, hn0, hST.1.kept (fun k q hq => hk q.1 (hST.1 k q hq).lt), hST.2.1, hST.2.2.2⟩, Nat.le_trans hST.2.2.1.1 hz, fun q h1 h2 => (hk q (Nat.lt_of_lt_of_le h1 hST.2.2.1.1)).trans (hST.2.2.1.2.1 q h1 h2)⟩
      · rcases dd with ⟨d4, d6, d9⟩ | ⟨d4, d6, d9⟩
        · refine vx_throwS B.exec B.bytes hl hown (exn_fit 2 (by omega) (by omega)) (names := ["java/lang/RuntimeException", "java/lang/Exception"]) (by decide +kernel) (hts _ (List.mem_cons_of_mem _ wx_k2)) (hts _ (List.mem_cons_of_mem _ wx_i2)) hvk (hat_of hGT (fun w hw => hts w (List.mem_cons_of_mem _ hw)) wx_a2 wx_b2) wx_g2 hGH.2.2.2.1 hGH.2.2.2.2 hST.2.2.1 (by rw [hml]; exact hLR.2.1) hd0 d3 d4 d6 d9 (fun z hz => by rw [hexc, List.isEmpty_iff.mp hhe] at hz; cases hz) (by show 2 + 3 < d + 8; omega) (by rw [cats hsc]; show _ + (13 * (2 + 1) + 43) ≤ 100 + 40 * d; omega) (by show cells + 1 ≤ mc; omega) (by show slots + 6 ≤ ms; omega) B.notSynchronized (fun t hal hz hk => ?_) hST.2.2.1.2.2 (by omega) (by omega)
          exact ⟨⟨2, ρ, ho, by omega, by omega, rfl, hρ, hn0, hST.1.kept (fun k q hq => hk q.1 (hST.1 k q hq).lt), hST.2.1, hST.2.2.2⟩, Nat.le_trans hST.2.2.1.1 hz, fun q h1 h2 => (hk q (Nat.lt_of_lt_of_le h1 hST.2.2.1.1)).trans (hST.2.2.1.2.1 q h1 h2)⟩
        · refine vx_throwSW B.exec B.bytes hl hown (exn_fit 2 (by omega) (by omega)) (names := ["java/lang/RuntimeException", "java/lang/Exception"]) (by decide +kernel) (hts _ (List.mem_cons_of_mem _ wx_k2)) (hts _ (List.mem_cons_of_mem _ wx_i2)) hvk (hat_of hGT (fun w hw => hts w (List.mem_cons_of_mem _ hw)) wx_a2 wx_b2) wx_g2 hGH.2.2.2.1 hGH.2.2.2.2 hST.2.2.1 (by rw [hml]; exact hLR.2.1) hd0 d3 d4 d6 d9 (fun z hz => by rw [hexc, List.isEmpty_iff.mp hhe] at hz; cases hz) (by show 2 + 3 < d + 8; omega) (by rw [cats hsc]; show _ + (13 * (2 + 1) + 43) ≤ 100 + 40 * d; omega) (by show cells + 1 ≤ mc; omega) (by show slots + 6 ≤ ms; omega) B.notSynchronized (fun t hal hz hk => ?_) hST.2.2.1.2.2 (by omega) (by omega)
          exact ⟨⟨2, ρ, ho, by omega, by omega, rfl, hρ, hn0, hST.1.kept (fun k q hq => hk q.1 (hST.1 k q hq).lt), hST.2.1, hST.2.2.2⟩, Nat.le_trans hST.2.2.1.1 hz, fun q h1 h2 => (hk q (Nat.lt_of_lt_of_le h1 hST.2.2.1.1)).trans (hST.2.2.1.2.1 q h1 h2)⟩
      · rcases dd with ⟨d4, d6, d9⟩ | ⟨d4, d6, d9⟩
        · refine vx_throwS B.exec B.bytes hl hown (exn_fit 3 (by omega) (by omega)) (names := ["java/lang/RuntimeException", "java/lang/Exception"]) (by decide +kernel) (hts _ (List.mem_cons_of_mem _ wx_k3)) (hts _ (List.mem_cons_of_mem _ wx_i3)) hvk (hat_of hGT (fun w hw => hts w (List.mem_cons_of_mem _ hw)) wx_a3 wx_b3) wx_g3 hGH.2.2.2.1 hGH.2.2.2.2 hST.2.2.1 (by rw [hml]; exact hLR.2.1) hd0 d3 d4 d6 d9 (fun z hz => by rw [hexc, List.isEmpty_iff.mp hhe] at hz; cases hz) (by show 2 + 3 < d + 8; omega) (by rw [cats hsc]; show _ + (13 * (2 + 1) + 43) ≤ 100 + 40 * d; omega) (by show cells + 1 ≤ mc; omega) (by show slots + 6 ≤ ms; omega) B.notSynchronized (fun t hal hz hk => ?_) hST.2.2.1.2.2 (by omega) (by omega)
          exact ⟨⟨3, ρ, ho, by omega, by omega, rfl, hρ, hn0, hST.1.kept (fun k q hq => hk q.1 (hST.1 k q hq).lt), hST.2.1, hST.2.2.2⟩, Nat.le_trans hST.2.2.1.1 hz, fun q h1 h2 => (hk q (Nat.lt_of_lt_of_le h1 hST.2.2.1.1)).trans (hST.2.2.1.2.1 q h1 h2)⟩
        · refine vx_throwSW B.exec B.bytes hl hown (exn_fit 3 (by omega) (by omega)) (names := ["java/lang/RuntimeException", "java/lang/Exception"]) (by decide +kernel) (hts _ (List.mem_cons_of_mem _ wx_k3)) (hts _ (List.mem_cons_of_mem _ wx_i3)) hvk (hat_of hGT (fun w hw => hts w (List.mem_cons_of_mem _ hw)) wx_a3 wx_b3) wx_g3 hGH.2.2.2.1 hGH.2.2.2.2 hST.2.2.1 (by rw [hml]; exact hLR.2.1) hd0 d3 d4 d6 d9 (fun z hz => by rw [hexc, List.isEmpty_iff.mp hhe] at hz; cases hz) (by show 2 + 3 < d + 8; omega) (by rw [cats hsc]; show _ + (13 * (2 + 1) + 43) ≤ 100 + 40 * d; omega) (by show cells + 1 ≤ mc; omega) (by show slots + 6 ≤ ms; omega) B.notSynchronized (fun t hal hz hk => ?_) hST.2.2.1.2.2 (by omega) (by omega)
          exact ⟨⟨3, ρ, ho, by omega, by omega, rfl, hρ, hn0, hST.1.kept (fun k q hq => hk q.1 (hST.1 k q hq).lt), hST.2.1, hST.2.2.2⟩, Nat.le_trans hST.2.2.1.1 hz, fun q h1 h2 => (hk q (Nat.lt_of_lt_of_le h1 hST.2.2.1.1)).trans (hST.2.2.1.2.1 q h1 h2)⟩
    have hFP : FPro p l e (rmOf d mc ms) s m (as.map (tr ρ0)).toArray below meth c (va_A (wso ca ρ0 h) s.heap.size) D ca y b L xs (hC h) (hZ h) (vx_MQ below (RQ ca D (va_A (wso ca ρ0 h) s.heap.size) b L xs ρ0 (hN h) o h') (RX ca D (va_A (wso ca ρ0 h) s.heap.size) b L xs ρ0 (hN h) o h') (as.map (tr ρ0)).toArray s mc ms (va_A (wso ca ρ0 h) s.heap.size)) ρ0 (hN h) o h' := by
      intro x ho hhe ρ H locs cells slots ls pc' rest qa ce x1 x3 hρ hn0 hST e1 e2 hce hcv hcl hls
      exact vx_out (fun z hz => by rw [hexc, List.isEmpty_iff.mp hhe] at hz; cases hz) B.notSynchronized hce hcv hcl (fun t ht _ => ⟨⟨x, ρ, ho, x1, x3, rfl, hρ, hn0, by rw [ht]; exact hST.1, hST.2.1, hST.2.2.2⟩, hST.2.2.1.F ht⟩) hST.2.2.1.2.2 (by omega) (by omega)
    rw [lg_entry_eq]
    exact hI d y 0 (ent y as) [] h o h' hex p l e (rmOf d mc ms) s m _ below meth c _ D ca b L xs (hC h) (hZ h) _ ρ0 (hN h) C ⟨Nat.le_refl _, Nat.le_refl _⟩ ⟨by show _ ≤ mc + _; omega, by show _ ≤ ms + _; omega⟩ hFR hFT hFP ρ0 s.heap [] 0 0 _ (fun _ _ => rfl) (Nat.le_refl _) ⟨hP, hD.self, va_S.rf, hwf, hr1, hr2, hr3⟩ (LR_ent hc hlen hVS) (fun v hv => by cases hv) (by omega) (by omega)
  have hvx : vx_Met l (mNm y) (wsm y) (rmOf d mc ms) (PQ ca D b L xs ρ0 h as sz) (RQ ca D (va_A (wso ca ρ0 h) sz) b L xs ρ0 (hN h) o h') (RX ca D (va_A (wso ca ρ0 h) sz) b L xs ρ0 (hN h) o h') mc ms (va_A (wso ca ρ0 h) sz) := by
    cases hh : (mHH y).isEmpty with
    | true =>
      have hw : wsm y = Cond.code (mNm y) (mCode y) (mML y) (mRet y) :: ALLW := by
        unfold wsm cw
        rw [if_pos hh]
      exact vx_ofW y1 hw (fun p e s m args below meth c s₁ B hml hno hP => body p e s m args below meth c s₁ B hml (by
        rw [List.isEmpty_iff.mp hh]
        exact List.eq_nil_iff_forall_not_mem.mpr hno) hP)
    | false =>
      have hw : wsm y = Cond.codeWith (mNm y) (mCode y) (mML y) (mRet y) (mHH y) :: ALLW := by
        unfold wsm cw
        rw [if_neg (by rw [hh]; decide)]
      exact vx_ofWH y1 hw (fun p e s m args below meth c s₁ B hml hP => body p e s m args below meth c s₁ B hml (vx_table (x := mNm y) B (atoms_spec (ws := wsm y) B.pre _ (by rw [hw]; exact List.mem_cons_self))) hP)
  refine ⟨fun v ho => met_of_vx hvx (fun E st t hx => ?_), fun x ho _ => hvx⟩
  obtain ⟨⟨x, ρ, hx1, -⟩, -⟩ := hx
  rw [ho] at hx1
  cases hx1
