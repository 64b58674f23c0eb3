/-! ===== the law from its entry ===== -/
def swT : List (Nat × String × Nat) := [(53, "there are 3 machines, or 5", 3108), (340, "there is no such machine", 3156), (84, "a machine is not cut from itself", 3187), (348, "an argument is out of its range", 3206), (352, "there is no such message", 4004), (129, "the message can't be delivered", 4015), (170, "the machine can't stand", 4214), (176, "the machine is no leader that is up", 4226), (184, "there is no such client", 5003), (196, "the act has another value", 5008), (208, "the request can't be taken", 5017), (235, "the machine can't answer a read", 5079), (342, "there is no such decision", 5099), (251, "the machine is not up", 5100), (263, "what is out of range", 5120), (276, "there is no such entry", 5136), (317, "there is no such act", 5170)]
set_option maxRecDepth 20000 in
theorem swT_ok : swT.all (fun q => decide (tba q.2.2 = some (.stringRef RX11 q.1 q.2.1))) = true := by decide +kernel
theorem str_in : ∀ k ∈ strT, ∃ tx, Cond.stringRef RX11 k tx ∈ lw_tbl := by
  intro k hk
  have e : strT = swT.map (fun q => q.1) := by decide
  rw [e] at hk
  obtain ⟨q, hq, rfl⟩ := List.mem_map.mp hk
  exact ⟨q.2.1, tba_in (of_decide_eq_true (List.all_eq_true.mp swT_ok q hq))⟩
set_option maxRecDepth 20000 in
theorem inst_0 : Cond.instantiable (clN 0) (nfld 0) ∈ lw_tbl := tba_in (p := 1186) (by decide +kernel)
set_option maxRecDepth 20000 in
theorem inst_1 : Cond.instantiable (clN 1) (nfld 1) ∈ lw_tbl := tba_in (p := 1166) (by decide +kernel)
set_option maxRecDepth 20000 in
theorem inst_2 : Cond.instantiable (clN 2) (nfld 2) ∈ lw_tbl := tba_in (p := 2056) (by decide +kernel)
set_option maxRecDepth 20000 in
theorem inst_3 : Cond.instantiable (clN 3) (nfld 3) ∈ lw_tbl := tba_in (p := 5039) (by decide +kernel)
set_option maxRecDepth 20000 in
theorem inst_4 : Cond.instantiable (clN 4) (nfld 4) ∈ lw_tbl := tba_in (p := 1179) (by decide +kernel)
set_option maxRecDepth 20000 in
theorem inst_5 : Cond.instantiable (clN 5) (nfld 5) ∈ lw_tbl := tba_in (p := 2021) (by decide +kernel)
set_option maxRecDepth 20000 in
theorem inst_6 : Cond.instantiable (clN 6) (nfld 6) ∈ lw_tbl := tba_in (p := 1145) (by decide +kernel)
set_option maxRecDepth 20000 in
theorem inst_7 : Cond.instantiable (clN 7) (nfld 7) ∈ lw_tbl := tba_in (p := 2004) (by decide +kernel)
set_option maxRecDepth 20000 in
theorem inst_8 : Cond.instantiable (clN 8) (nfld 8) ∈ lw_tbl := tba_in (p := 1238) (by decide +kernel)
set_option maxRecDepth 20000 in
theorem inst_9 : Cond.instantiable (clN 9) (nfld 9) ∈ lw_tbl := tba_in (p := 1040) (by decide +kernel)
set_option maxRecDepth 20000 in
theorem inst_10 : Cond.instantiable (clN 10) (nfld 10) ∈ lw_tbl := tba_in (p := 1033) (by decide +kernel)
set_option maxRecDepth 20000 in
theorem inst_11 : Cond.instantiable (clN 11) (nfld 11) ∈ lw_tbl := tba_in (p := 1023) (by decide +kernel)
set_option maxRecDepth 20000 in
theorem inst_12 : Cond.instantiable (clN 12) (nfld 12) ∈ lw_tbl := tba_in (p := 5172) (by decide +kernel)
theorem inst_in : ∀ ci, ci < 13 → Cond.instantiable (clN ci) (nfld ci) ∈ lw_tbl
  | 0, _ => inst_0
  | 1, _ => inst_1
  | 2, _ => inst_2
  | 3, _ => inst_3
  | 4, _ => inst_4
  | 5, _ => inst_5
  | 6, _ => inst_6
  | 7, _ => inst_7
  | 8, _ => inst_8
  | 9, _ => inst_9
  | 10, _ => inst_10
  | 11, _ => inst_11
  | 12, _ => inst_12
  | n + 13, h => absurd h (by omega)
set_option maxRecDepth 20000 in
theorem ls_U : Cond.laysStatic Bundle.tN "UNASSIGNED_STACK" Bundle.steD ∈ lw_tbl := tba_in (p := 3094) (by decide +kernel)
set_option maxRecDepth 20000 in
theorem ls_N : Cond.laysStatic Bundle.tN "SUPPRESSED_SENTINEL" Bundle.listD ∈ lw_tbl := tba_in (p := 3096) (by decide +kernel)
set_option maxRecDepth 20000 in
theorem in_T : Cond.initialized Bundle.tN ∈ lw_tbl := tba_in (p := 1013) (by decide +kernel)
def R_law : String := "QuorumHallLaw"
def lw_P (b : Addr) (xs : List Int32) (args : Array Value) (s : State) : Prop := args = #[.ref b] ∧ s.IntsAt b xs ∧ xs.length ≤ 2560 ∧ (Jvm.Cond.and given_1 narrow_1).before args s = true
/-- what a walk over the start with the record d0 says of its end, said of the start itself -/
theorem lw_closed {s t : State} {o : Outcome} {d0 : Drawn} {L : List Loc} {k n : Nat} (hd0 : s.drawn.sameBut d0 lw_cs) (hv : ∃ v, o = .returned v) (hW : (s.setDrawn d0).WarmedH t.vm) (hs : (s.setDrawn d0).sameButNew ({ t with vm := s.vm } : State) L k n) : State.butDraws s t lw_cs (fun t1 => Framed s o t1 L k n) := by
  have h2 : t.drawn = d0 := congrArg State.drawn hs.1
  refine ⟨⟨hv, hW, State.sameButNew.setDrawn hs s.drawn⟩, ?_, by decide⟩
  rw [h2]
  exact hd0
def lw_Q (_ : Array Value) (s : State) (o : Outcome) (t : State) : Prop := o = .returned (some (.int 1)) ∧ State.butDraws s t lw_cs (fun t1 => Framed s o t1 [] 601024 7293034)
def lw_Z (below : List Frame) (a : Array Value) (s : State) : State → Prop := fun t => ∃ o, t.status = .running ∧ Ended t below o ∧ lw_Q a s o t
/-- the law's own end, with 1 on the stack, nothing written that was there before, its room as the claim has it; d0: the record of draws at this point (at the entry s.drawn: begin with 'refine W.base ?_' and 'have hd0 := Drawn.sameBut.refl s.drawn lw_cs') -/
theorem lw_ret {p : Program} {l : Launch} {e : Env} {s : State} {m : MethodId} {below : List Frame} {meth : Method} {c : Code} {b : Nat} {d0 : Drawn} (hd0 : s.drawn.sameBut d0 lw_cs) (hx : p.tables.exec = Jvm.exec) (hb : c.code = code) (hr : meth.sig.returnType = ret) (hlocks : meth.locks = false) {pc : Nat} {H : Heap} {ls : Array Slot} (hdg : decode code pc = .ok (.ireturn, 1)) : W p l e room_1 (s.setDrawn d0) m #[Value.ref b] below meth c H [] 601024 7293034 (lw_Z below #[Value.ref b] s) (F0 m pc ls [.int 1]) := by
  intro T hT X
  obtain ⟨fs, hret, hrun, hended, hW, hframe⟩ := X.leave (v := some (.int 1)) (hlocks := hlocks) (fun h => by rw [hr] at h; cases h)
  have hmeth' : T.vm.method? m = some meth := X.method'
  refine ⟨T.setFrames fs, ?_, .returned (some (.int 1)), hrun, hended, rfl, lw_closed hd0 ⟨_, rfl⟩ hW hframe⟩
  jvm_step X.here [X.here.top, hx, hb, hdg, hmeth', hr, ret, narrow_b1]
  (try refine ⟨rfl, ?_⟩); (try refine ⟨rfl, ?_⟩)
  first | (intro acts; rw [hret _ acts rfl rfl rfl]) | rw [hret _ _ rfl rfl rfl]
  exact Steps.refl _
/-- what holds at the law's entry: the machine, the code, the tables' words (any of lw_tbl by 'hts w (by decide +kernel)'), the script of L ints xs at the cell b, what the Statement gives of the start (any of its parts by flat_of_before) -/
def lw_At (p : Program) (s : State) (m : MethodId) (meth : Method) (c : Code) (b L : Nat) (xs : Nat → Int32) : Prop :=
  p.tables.exec = Jvm.exec ∧ c.code = code ∧ meth.sig.returnType = ret ∧ c.maxLocals = 8 ∧ s.vm.findClass R_law = some m.cls ∧ (∀ w ∈ lw_tbl, w.before #[Value.ref b] s = true) ∧ va_X b L xs s s.heap ∧ b < s.heap.size ∧ meth.locks = false ∧ (Jvm.Cond.and given_1 narrow_1).before #[Value.ref b] s = true ∧ c.exceptionTable.toList = []

/-- the heap at the law's entry: the script alone, at 1 -/
def h00 (L : Nat) (xs : Nat → Int32) : HP := mkH (fun _ _ => 0) (fun _ _ => 0) (fun _ _ => 0) (fun a i => if a = 1 then xs i else 0) (fun _ _ => 0) (fun _ _ => 0) (fun _ _ => 0) (fun _ _ => 0) (fun a => if a = 1 then 19 else 99) (fun a => if a = 1 then L else 0) 2 0 0
theorem h00_wf (L : Nat) (xs : Nat → Int32) : HWF (h00 L xs) := by
  refine ⟨fun a ha => ?_, by show 30 ≤ (if (0 : Nat) = 1 then 19 else 99); decide, fun a => ?_, by show 2 ≤ 2; decide, fun f a => by show 0 < 2; omega, fun a i => by show 0 < 2; omega⟩
  · have h2 : 2 ≤ a := ha
    show 30 ≤ (if a = 1 then 19 else 99)
    rw [if_neg (by omega)]
    omega
  · show (if a = 1 then 19 else 99) = 19 ↔ a = 1
    by_cases h : a = 1
    · simp [h]
    · simp [h]
/-- THE CLAIM, SAID OF THE ABSTRACT MACHINE -/
def RUNS : Prop := ∀ (L : Nat) (xs : Nat → Int32), L ≤ 2560 → ∃ (n : Nat) (h' : HP), ex n 60 mL_law 0 (ent mL_law [.ref 1]) [] (h00 L xs) = some (.inl (some (.int 1)), h') ∧ hC h' ≤ 601024 ∧ hZ h' ≤ 7293034
theorem ca_of {s : State} {args : Array Value} (hts : ∀ w ∈ lw_tbl, w.before args s = true) : ∃ ca : Nat → ClassId, ∀ t, t < 10 → ArrOfT s (ca t) (tyO t) ∧ va_RA s (ca t) (tyO t) := by
  have h : ∀ t, ∃ cA : ClassId, t < 10 → ArrOfT s cA (tyO t) ∧ va_RA s cA (tyO t) := by
    intro t
    by_cases ht : t < 10
    · have prim : ∀ ty : FieldType, (∀ C, ty ≠ .object C) → Cond.arrayClass ty ∈ lw_tbl → ∃ cA : ClassId, ArrOfT s cA ty ∧ va_RA s cA ty := by
        intro ty hty hw
        obtain ⟨cA, kA, comp, h1, h2, h3⟩ := Cond.arrayClass_spec (hts _ hw)
        refine ⟨cA, fun n z => ⟨fun k h => (by cases h), kA, h2, comp, h3⟩, ?_⟩
        cases ty <;> first | exact h1 | exact absurd rfl (hty _)
      match t, ht with
      | 0, _ => exact (prim .int (fun C => by simp) (allw_tbl wa_int)).imp fun _ h _ => h
      | 1, _ => exact (prim .boolean (fun C => by simp) (allw_tbl wa_boolean)).imp fun _ h _ => h
      | 2, _ => exact (prim .float (fun C => by simp) (allw_tbl wa_float)).imp fun _ h _ => h
      | 3, _ => exact (prim .long (fun C => by simp) (allw_tbl wa_long)).imp fun _ h _ => h
      | 4, _ => exact (prim .double (fun C => by simp) (allw_tbl wa_double)).imp fun _ h _ => h
      | t + 5, ht =>
        obtain ⟨comp, cA, kA, h1, h2, h3, h4, h5⟩ := Cond.arrayOver_spec (hts _ (ao_in t (by omega)))
        exact ⟨cA, fun _ => ⟨fun n z => ⟨fun k h => (by cases h), kA, h3, comp, h4⟩, kA, comp, h3, h4, h1, h5⟩⟩
    · exact ⟨0, fun h => absurd h ht⟩
  exact ⟨fun t => Classical.choose (h t), fun t ht => Classical.choose_spec (h t) ht⟩
theorem dk_of {s : State} {args : Array Value} (hts : ∀ w ∈ lw_tbl, w.before args s = true) : ∃ (dC : Nat → ClassId) (dI : Nat → Nat → Nat), ∀ ci, ci < 13 → u_Kn s (clN ci) (clT ci) (nfld ci) (dC ci) (dI ci) := by
  have h : ∀ ci, ∃ (q : ClassId × (Nat → Nat)), ci < 13 → u_Kn s (clN ci) (clT ci) (nfld ci) q.1 q.2 := by
    intro ci
    by_cases hc : ci < 13
    · obtain ⟨a, z, h⟩ := u_known (C := clN ci) (T := clT ci) (N := nfld ci) (n := nfld ci) hts (fun w hw => allw_tbl (cl_in ci hc w hw)) (hts _ (inst_in ci hc))
      exact ⟨(a, z), fun _ => h⟩
    · exact ⟨(0, fun _ => 0), fun h => absurd h hc⟩
  exact ⟨fun ci => (Classical.choose (h ci)).1, fun ci => (Classical.choose (h ci)).2, fun ci hc => Classical.choose_spec (h ci) hc⟩
theorem vw_len : ∀ (ci : Nat) (q : vw_C), vwCl[ci]? = some q → ci < 13 := fun ci q h => (List.getElem?_eq_some_iff.mp h).1
/-- the law, from its entry, out of the run of the abstract machine -/
theorem start_of (hRUN : RUNS) {p : Program} {e : Env} {s : State} {m : MethodId} {below : List Frame} {meth : Method} {c : Code} (l : Launch) (hflags : l.flags = flags0) {b L : Nat} {xs : Nat → Int32} (hL : L ≤ 2560) (C0 : lw_At p s m meth c b L xs) : W p l e room_1 s m #[Value.ref b] below meth c s.heap [] 0 0 (lw_Z below #[Value.ref b] s) (entryFrame m ([Value.ref b] : List Value).toArray 8) := by
  obtain ⟨hx, hb, hr, hml, hown, hts, hX, hbl, hlocks, hgv, hext⟩ := C0
  have hl : l.stackTraces = false := by
    unfold Launch.stackTraces
    rw [hflags]
    decide +kernel
  obtain ⟨ca, hca⟩ := ca_of hts
  obtain ⟨dC, dI, hdk⟩ := dk_of hts
  have hflat := flat_of_before _ hgv
  have hGT : GT (dC, dI) ca s := by
    refine ⟨⟨fun ci q hq => ?_, fun k q hq => ?_⟩, fun t ht => va_AO.of (hts _ (ao_in t ht)), fun o j z hz => va_Nw.of rfl (hts _ hz), fun x x1 x3 => ?_, fun x y x1 x3 y1 y3 hn => ?_, fun k hk => ?_, fun z hz => va_Nw.of rfl (hts _ hz)⟩
    · have hc := vw_len ci q hq
      rw [cl_at ci hc] at hq
      cases hq
      exact hdk ci hc
    · have hk : k < 10 := by
        have := (List.getElem?_eq_some_iff.mp hq).1
        simpa [tysOf] using this
      rw [tys_at ca hk] at hq
      cases hq
      exact hca k hk
    · match x, x1, x3 with
      | 1, _, _ => exact va_Nw.of rfl (hts _ wh_c1)
      | 2, _, _ => exact va_Nw.of rfl (hts _ wh_c2)
      | 3, _, _ => exact va_Nw.of rfl (hts _ wh_c3)
    · match x, x1, x3, y, y1, y3, hn with
      | 1, _, _, 1, _, _, h => exact absurd rfl h
      | 1, _, _, 2, _, _, _ => exact va_Nc.of (hflat (.not (.castable (exN 1) (exN 2))) (by decide +kernel))
      | 1, _, _, 3, _, _, _ => exact va_Nc.of (hflat (.not (.castable (exN 1) (exN 3))) (by decide +kernel))
      | 2, _, _, 1, _, _, _ => exact va_Nc.of (hflat (.not (.castable (exN 2) (exN 1))) (by decide +kernel))
      | 2, _, _, 2, _, _, h => exact absurd rfl h
      | 2, _, _, 3, _, _, _ => exact va_Nc.of (hflat (.not (.castable (exN 2) (exN 3))) (by decide +kernel))
      | 3, _, _, 1, _, _, _ => exact va_Nc.of (hflat (.not (.castable (exN 3) (exN 1))) (by decide +kernel))
      | 3, _, _, 2, _, _, _ => exact va_Nc.of (hflat (.not (.castable (exN 3) (exN 2))) (by decide +kernel))
      | 3, _, _, 3, _, _, h => exact absurd rfl h
    · obtain ⟨tx, hw⟩ := str_in k hk
      obtain ⟨c11, -, hc11, -⟩ := Cond.instantiable_spec (hts _ (inst_in 11 (by omega)))
      have hc11 : s.vm.findClass RX11 = some c11 := by
        obtain ⟨q1, q2, h1, -⟩ := Cond.instantiable_spec (hts _ (inst_in 11 (by omega)))
        first | exact hc11 | exact h1
      obtain ⟨k', cf, i, a, h1, h2, h3, h4, h5, h6⟩ := Cond.stringRef_spec hc11 (hts _ hw)
      exact ⟨tx, a, vk_R.of (hts _ hw) h6⟩
  have hAs : ∀ q : Nat, q < s.heap.size → ¬ (fun q : Nat => s.heap.size ≤ q) q := fun q h => Nat.not_le.mpr h
  have hGH : GH (fun q : Nat => s.heap.size ≤ q) b L xs s s.heap := ⟨hX, hbl, hAs b hbl, vx_Zqof (hts _ ls_U) (hts _ in_T) (hflat (.isRef (.static Bundle.tN "UNASSIGNED_STACK" Bundle.steD)) (by decide +kernel)) hAs, vx_Zqof (hts _ ls_N) (hts _ in_T) (hflat (.isRef (.static Bundle.tN "SUPPRESSED_SENTINEL" Bundle.listD)) (by decide +kernel)) hAs⟩
  have C : CX p l s m #[Value.ref b] meth c (fun q : Nat => s.heap.size ≤ q) (dC, dI) ca mL_law b L xs := ⟨hx, hb, hml, hown, fun w hw => hts w (allw_tbl hw), hlocks, hr, hext, fun h => absurd h (by decide), hGT, hGH, fun q h => h, hl⟩
  obtain ⟨n, h', hrun, hc1, hc2⟩ := hRUN L xs hL
  have hI := inn_all n 60 mL_law 0 (ent mL_law [.ref 1]) [] (h00 L xs) (.inl (some (.int 1))) h' hrun p l e room_1 s m #[Value.ref b] below meth c (fun q : Nat => s.heap.size ≤ q) (dC, dI) ca b L xs 0 0 (lw_Z below #[Value.ref b] s) (fun _ => b) 2 C ⟨by decide +kernel, by decide +kernel⟩ ⟨hc1, hc2⟩ (by
    intro v hv i pc' lo' hd hri ρ H locs cells slots ls hρ hn0 hST hLR hV e1 e2
    cases hv
    have hi : i = .ireturn := by
      unfold retI at hri
      split at hri <;> first | rfl | (rename_i q; cases q) | cases hri
    subst hi
    refine va_forget (fun q hq => hST.2.2.1.2.2 q hq) (W.widen (k := 601024) (n := 7293034) (by omega) (by omega) ?_)
    exact W.base (lw_ret (Drawn.sameBut.refl s.drawn lw_cs) hx hb hr hlocks hd)) (by intro x hx; cases hx) (by intro x hx; cases hx)
  have hl0 := LR_ent (ρ := fun _ => b) (n := 2) (y := mL_law) (as := [.ref 1]) rfl (by decide) (fun v hv => by
    rw [List.mem_singleton] at hv
    subst hv
    exact (by decide : (1 : Nat) < 2))
  have hw := hI (fun _ => b) s.heap [] 0 0 _ (fun _ _ => rfl) (Nat.le_refl _) ⟨fun k q h => by simp [wso, h00, hN, mkH] at h, ⟨fun i j p q h => by simp [wso, h00, hN, mkH] at h, fun k q h => by simp [wso, h00, hN, mkH] at h⟩, va_S.rf, h00_wf L xs, rfl, rfl, fun i hi => rfl⟩ hl0 (fun v hv => by cases hv) rfl rfl
  rw [lg_entry_eq]
  exact hw

