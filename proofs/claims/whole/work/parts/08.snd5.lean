/-! ===== making cells, constants ===== -/
theorem ra_inj {U : State} {c1 c2 : ClassId} {t : FieldType} (h1 : va_RA U c1 t) (h2 : va_RA U c2 t) : c1 = c2 := by
  cases t with
  | object C =>
    obtain ⟨-, -, -, -, -, a⟩ := h1
    obtain ⟨-, -, -, -, -, b⟩ := h2
    exact Option.some.inj (a.symm.trans b)
  | _ => exact Option.some.inj (Eq.trans (Eq.symm h1) h2)
theorem ca_new {D : va_G} {ca : Nat → ClassId} {U : State} {cA : ClassId} {t : Nat} (hK : va_K D vwCl (tysOf ca) U) (ht : t < 10) (h : va_K D vwCl (tysOf ca ++ [(cA, tyO t)]) U) : cA = ca t := by
  have h1 := (hK.2 t _ (tys_at ca ht)).2
  have e : (tysOf ca ++ [(cA, tyO t)])[10]? = some (cA, tyO t) := by
    rw [List.getElem?_append_right (by simp [tysOf])]
    simp [tysOf]
  exact ra_inj (h.2 10 _ e).2 h1
theorem fvt_new {ρ : Nat → Nat} {h : HP} {k len sz ci j : Nat} {t : FieldType} (hf : fok t (ftyp ci j) = true) : fvt ρ (nw h k len sz) ci (hN h) j = defaultValue t := by
  unfold fvt
  simp only [fok, Bool.or_eq_true, Bool.and_eq_true, beq_iff_eq] at hf
  rcases hf with ((⟨e, rfl⟩ | ⟨e, rfl⟩) | ⟨e, r⟩) | ⟨e, rfl⟩ <;> rw [e]
  · simp only [hI_nw, if_true]; rfl
  · simp only [hF_nw, if_true]; rfl
  · simp only [hR_nw, if_true]
    cases t <;> first | rfl | (simp [isRT] at r)
  · simp only [hI_nw, if_true]; rfl
theorem hAI_new (h : HP) (k ln sz : Nat) : hAI (nw h k ln sz) (hN h) = fun _ => 0 := funext fun i => by simp only [hAI_nw, if_true]
theorem hAF_new (h : HP) (k ln sz : Nat) : hAF (nw h k ln sz) (hN h) = fun _ => 0 := funext fun i => by simp only [hAF_nw, if_true]
theorem hAL_new (h : HP) (k ln sz : Nat) : hAL (nw h k ln sz) (hN h) = fun _ => 0 := funext fun i => by simp only [hAL_nw, if_true]
theorem hAD_new (h : HP) (k ln sz : Nat) : hAD (nw h k ln sz) (hN h) = fun _ => 0 := funext fun i => by simp only [hAD_nw, if_true]
section SND5
variable {p : Program} {l : Launch} {e : Env} {R : Room} {s : State} {m : MethodId} {args : Array Value} {below : List Frame} {meth : Method} {c : Code} {A : Nat → Prop} {D : va_G} {ca : Nat → ClassId} {y : MI} {b L : Nat} {xs : Nat → Int32} {B1 B2 : Nat} {Q : State → Prop} {ρ0 : Nat → Nat} {n0 : Nat}
variable {i : Instr} {len pc pc' : Nat} {lo lo' : Lo} {st st' : List Value} {h h' : HP}
/-- behind a cell made -/
theorem ST.born {ρ : Nat → Nat} {H H1 : Heap} {locs : List Loc} {h : HP} {k ln sz q : Nat} {x : va_E} (hST : ST ca D A b L xs ρ h s H locs) (hk : k < 30) (hk2 : k ≠ 19) (hx : cel ca (va_up ρ (hN h) q) (nw h k ln sz) (hN h) = x)
    (hP1 : va_P D vwCl (wso ca ρ h ++ [(q, x)]) H1) (hD1 : va_D A (wso ca ρ h ++ [(q, x)])) (hS1 : va_S A s.heap H1 locs) : ST ca D A b L xs (va_up ρ (hN h) q) (nw h k ln sz) s H1 locs := by
  obtain ⟨hP, hD, hS, hwf, hr1, hr2, hr3⟩ := hST
  have e := wso_nw ca ρ hwf k ln sz q
  rw [hx] at e
  have h2 := hwf.2.2.2.1
  refine ⟨by rw [e]; exact hP1, by rw [e]; exact hD1, hS1, hwf.nw hk hk2, ?_, ?_, fun i hi => ?_⟩
  · rw [va_up_ne _ _ (by omega)]; exact hr1
  · rw [hL_nw, if_neg (by omega)]; exact hr2
  · rw [hAI_nw, if_neg (by omega)]; exact hr3 i hi
theorem sp_new_T (C : CX p l s m args meth c A D ca y b L xs) {j ci : Nat} (hn : nres (mOwn y) j = some ci) (hd : decode (mCode y) pc = .ok (.new j, 3)) (hcap : hC h + 1 ≤ R.cells + B1 ∧ hZ h + nfld ci ≤ R.slots + B2) (kk : WS p l e R s m args below meth c A D ca y b L xs B1 B2 Q ρ0 n0 (pc + 3) lo (.ref (hN h) :: st) (nw h ci 0 (nfld ci))) : WS p l e R s m args below meth c A D ca y b L xs B1 B2 Q ρ0 n0 pc lo st h := by
  obtain ⟨hx, hb, hml, hown, hts, hlk, hrt, hex, hin, hGT, hGH, hA, hl⟩ := id C
  obtain ⟨hci, w1, w2, w3⟩ := nres_ok hn
  intro ρ H locs cells slots ls hρ hn0 hST hLR hV e1 e2
  obtain ⟨hP, hD, hS, hwf, hr1, hr2, hr3⟩ := id hST
  have hfs : ∀ ρ' : Nat → Nat, fls ρ' (nw h ci 0 (nfld ci)) ci (hN h) = fls ρ (nw h ci 0 (nfld ci)) ci (hN h) := fun ρ' => by
    unfold fls
    apply List.map_congr_left
    intro j hj
    have hj : j < nfld ci := by simpa using hj
    rw [fvt_new (cl_f ci hci j hj).1, fvt_new (cl_f ci hci j hj).1]
  refine va_new hx hb hts (cl_in ci hci) (clY ci) (cl_ty ci hci) hown (hts _ w1) (hts _ w2) (hts _ w3) hGT.1 hP hD hS hA (cl_at ci hci) (fs := fls ρ (nw h ci 0 (nfld ci)) ci (hN h)) (fun j hj => ?_) (by omega) (by omega) hd (fun q H1 hP1 hD1 hS1 => ?_)
  · unfold vp_V
    rw [List.getD_eq_getElem?_getD, fls_at _ _ _ hj, fvt_new (cl_f ci hci j hj).1]
    rfl
  · have hup : ∀ a, a < n0 → va_up ρ (hN h) q a = ρ0 a := fun a ha => by rw [va_up_ne _ _ (by omega)]; exact hρ a ha
    have hw := kk (va_up ρ (hN h) q) H1 locs (cells + 1) (slots + nfld ci) ls hup (by rw [hN_nw]; omega) (ST.born hST (by omega) (by omega) (by rw [cel_obj (by rw [hK_nw, if_pos rfl]) hci, hfs]) hP1 hD1 hS1) (hLR.up (by rw [hN_nw]; omega)) (VS.cons (show hN h < hN (nw h ci 0 (nfld ci)) by rw [hN_nw]; omega) (hV.mono (by rw [hN_nw]; omega))) (by rw [hC_nw]; omega) (by rw [hZ_nw]; omega)
    have h2 := hwf.2.2.2.1
    rw [List.map_cons, tr_ref (by omega), va_up_self, trs_up hV] at hw
    exact hw
theorem inr_nn {n : Int32} (q : 0 ≤ n) : ¬ n < 0 := by
  rw [Int32.le_iff_toInt_le] at q
  rw [Int32.lt_iff_toInt_lt]
  omega
theorem sp_newa_T (C : CX p l s m args meth c A D ca y b L xs) {t k : Nat} {n : Int32} {at' : ArrayType} {a0 : vp_A} {r : List Value} (ht : t < 5) (hk : k = 20 + t) (hat : newarray.typeOf at' = tyO t) (hw : Cond.arrayClass (tyO t) ∈ ALLW) (ha0 : ∀ cA : ClassId, vp_cell cA a0 = arrV cA n.toNatClampNeg (fun _ => defaultValue (tyO t))) (hcel : ∀ ρ' : Nat → Nat, acel ca ρ' (nw h k n.toNatClampNeg n.toNatClampNeg) (hN h) t = .inl (ca t, a0)) (hb8 : componentBytes (tyO t) ≤ 8)
    (hn : 0 ≤ n) (hn2 : n.toNatClampNeg ≤ 20000) (hd : decode (mCode y) pc = .ok (.newarray at', 2)) (hcap : hC h + 1 ≤ R.cells + B1 ∧ hZ h + n.toNatClampNeg ≤ R.slots + B2) (kk : WS p l e R s m args below meth c A D ca y b L xs B1 B2 Q ρ0 n0 (pc + 2) lo (.ref (hN h) :: r) (nw h k n.toNatClampNeg n.toNatClampNeg)) : WS p l e R s m args below meth c A D ca y b L xs B1 B2 Q ρ0 n0 pc lo (.int n :: r) h := by
  obtain ⟨hx, hb, hml, hown, hts, hlk, hrt, hex, hin, hGT, hGH, hA, hl⟩ := id C
  intro ρ H locs cells slots ls hρ hn0 hST hLR hV e1 e2
  obtain ⟨hP, hD, hS, hwf, hr1, hr2, hr3⟩ := id hST
  have hbytes : n.toNatClampNeg * componentBytes (tyO t) ≤ 536870912 := Nat.le_trans (Nat.mul_le_mul hn2 hb8) (by decide)
  refine va_newa hx hb (hts _ (by rw [hat]; exact hw)) hat hGT.1 hP hD hS hA ha0 (inr_nn hn) rfl hbytes (by omega) (by omega) hd (fun q cA H1 hK1 hP1 hD1 hS1 => ?_)
  obtain rfl := ca_new hGT.1 (by omega) hK1
  have hup : ∀ a, a < n0 → va_up ρ (hN h) q a = ρ0 a := fun a ha => by rw [va_up_ne _ _ (by omega)]; exact hρ a ha
  have hw := kk (va_up ρ (hN h) q) H1 locs (cells + 1) (slots + n.toNatClampNeg) ls hup (by rw [hN_nw]; omega) (ST.born hST (by omega) (by omega) (by rw [cel_arr (t := t) (by rw [hK_nw, if_pos rfl]; exact hk), hcel]) hP1 hD1 hS1) (hLR.up (by rw [hN_nw]; omega)) (VS.cons (show hN h < hN (nw h k n.toNatClampNeg n.toNatClampNeg) by rw [hN_nw]; omega) (hV.tl.mono (by rw [hN_nw]; omega))) (by rw [hC_nw]; omega) (by rw [hZ_nw]; omega)
  have h2 := hwf.2.2.2.1
  rw [List.map_cons, tr_ref (by omega), va_up_self, trs_up hV.tl] at hw
  exact hw
theorem sp_anewa_T (C : CX p l s m args meth c A D ca y b L xs) {j t : Nat} {n : Int32} {r : List Value} (har : ares (mOwn y) j = some t) (hn : 0 ≤ n) (hn2 : n.toNatClampNeg ≤ 20000) (hd : decode (mCode y) pc = .ok (.anewarray j, 3)) (hcap : hC h + 1 ≤ R.cells + B1 ∧ hZ h + n.toNatClampNeg ≤ R.slots + B2) (kk : WS p l e R s m args below meth c A D ca y b L xs B1 B2 Q ρ0 n0 (pc + 3) lo (.ref (hN h) :: r) (nw h (25 + t) n.toNatClampNeg n.toNatClampNeg)) : WS p l e R s m args below meth c A D ca y b L xs B1 B2 Q ρ0 n0 pc lo (.int n :: r) h := by
  obtain ⟨hx, hb, hml, hown, hts, hlk, hrt, hex, hin, hGT, hGH, hA, hl⟩ := id C
  obtain ⟨ht, w1, -⟩ := ares_ok har
  intro ρ H locs cells slots ls hρ hn0 hST hLR hV e1 e2
  obtain ⟨hP, hD, hS, hwf, hr1, hr2, hr3⟩ := id hST
  refine va_newq hx hb hown (hts _ w1) (hGT.2.1 t ht) hGT.1 hP hD hS hA (inr_nn hn) rfl (Nat.le_trans (Nat.mul_le_mul hn2 (Nat.le_refl 4)) (by decide)) (by omega) (by omega) hd (fun q cA H1 hK1 hP1 hD1 hS1 => ?_)
  obtain rfl := ca_new (t := t + 5) hGT.1 (by omega) hK1
  have hup : ∀ a, a < n0 → va_up ρ (hN h) q a = ρ0 a := fun a ha => by rw [va_up_ne _ _ (by omega)]; exact hρ a ha
  have hw := kk (va_up ρ (hN h) q) H1 locs (cells + 1) (slots + n.toNatClampNeg) ls hup (by rw [hN_nw]; omega) (ST.born hST (by omega) (by omega) (by
    rw [cel_arr (t := t + 5) (by rw [hK_nw, if_pos rfl]; omega)]
    unfold acel
    simp only [hL_nw, hAR_nw, if_true]
    rfl) hP1 hD1 hS1) (hLR.up (by rw [hN_nw]; omega)) (VS.cons (show hN h < hN (nw h (25 + t) n.toNatClampNeg n.toNatClampNeg) by rw [hN_nw]; omega) (hV.tl.mono (by rw [hN_nw]; omega))) (by rw [hC_nw]; omega) (by rw [hZ_nw]; omega)
  have h2 := hwf.2.2.2.1
  rw [List.map_cons, tr_ref (by omega), va_up_self, trs_up hV.tl] at hw
  exact hw
theorem sp_newarray (C : CX p l s m args meth c A D ca y b L xs) {t : ArrayType} (hcap : hC h' ≤ R.cells + B1 ∧ hZ h' ≤ R.slots + B2) (hd : decode (mCode y) pc = .ok (.newarray t, len)) (hs : stpR y (.newarray t) len pc lo st h = some (.inl (pc', lo', st', h'))) (kk : WS p l e R s m args below meth c A D ca y b L xs B1 B2 Q ρ0 n0 pc' lo' st' h') : WS p l e R s m args below meth c A D ca y b L xs B1 B2 Q ρ0 n0 pc lo st h := by
  simp only [stpR] at hs
  replace hs := gL_some hs
  obtain ⟨q, hs⟩ := hs
  obtain rfl := eq_of_beq q
  split at hs
  · replace hs := gL_some hs
    obtain ⟨q2, hs⟩ := hs
    simp only [Bool.and_eq_true, decide_eq_true_eq] at q2
    cases t <;> simp only at hs <;> first | cases hs; done | skip
    · obtain ⟨rfl, rfl, rfl, rfl⟩ := go_some hs
      exact sp_newa_T C (t := 1) (at' := .boolean) (a0 := (_, .inl (fun _ => 0))) (by omega) rfl rfl wa_boolean (fun cA => rfl) (fun ρ' => by unfold acel; rw [hAI_new]; simp only [hL_nw, if_true]; rfl) (by decide) q2.1 q2.2 hd hcap kk
    · obtain ⟨rfl, rfl, rfl, rfl⟩ := go_some hs
      exact sp_newa_T C (t := 2) (at' := .float) (a0 := (_, .inr (.inr (.inl (fun _ => 0))))) (by omega) rfl rfl wa_float (fun cA => rfl) (fun ρ' => by unfold acel; rw [hAF_new]; simp only [hL_nw, if_true]; rfl) (by decide) q2.1 q2.2 hd hcap kk
    · obtain ⟨rfl, rfl, rfl, rfl⟩ := go_some hs
      exact sp_newa_T C (t := 4) (at' := .double) (a0 := (_, .inr (.inr (.inr (.inl (fun _ => 0)))))) (by omega) rfl rfl wa_double (fun cA => rfl) (fun ρ' => by unfold acel; rw [hAD_new]; simp only [hL_nw, if_true]; rfl) (by decide) q2.1 q2.2 hd hcap kk
    · obtain ⟨rfl, rfl, rfl, rfl⟩ := go_some hs
      exact sp_newa_T C (t := 0) (at' := .int) (a0 := (_, .inl (fun _ => 0))) (by omega) rfl rfl wa_int (fun cA => rfl) (fun ρ' => by unfold acel; rw [hAI_new]; simp only [hL_nw, if_true]; rfl) (by decide) q2.1 q2.2 hd hcap kk
    · obtain ⟨rfl, rfl, rfl, rfl⟩ := go_some hs
      exact sp_newa_T C (t := 3) (at' := .long) (a0 := (_, .inr (.inl (fun _ => 0)))) (by omega) rfl rfl wa_long (fun cA => rfl) (fun ρ' => by unfold acel; rw [hAL_new]; simp only [hL_nw, if_true]; rfl) (by decide) q2.1 q2.2 hd hcap kk
  · cases hs
theorem sp_anewarray (C : CX p l s m args meth c A D ca y b L xs) {j : Nat} (hcap : hC h' ≤ R.cells + B1 ∧ hZ h' ≤ R.slots + B2) (hd : decode (mCode y) pc = .ok (.anewarray j, len)) (hs : stpR y (.anewarray j) len pc lo st h = some (.inl (pc', lo', st', h'))) (kk : WS p l e R s m args below meth c A D ca y b L xs B1 B2 Q ρ0 n0 pc' lo' st' h') : WS p l e R s m args below meth c A D ca y b L xs B1 B2 Q ρ0 n0 pc lo st h := by
  simp only [stpR] at hs
  replace hs := gL_some hs
  obtain ⟨q, hs⟩ := hs
  obtain rfl := eq_of_beq q
  split at hs
  · replace hs := gL_some hs
    obtain ⟨q2, hs⟩ := hs
    simp only [Bool.and_eq_true, decide_eq_true_eq] at q2
    split at hs
    · rename_i t har
      obtain ⟨rfl, rfl, rfl, rfl⟩ := go_some hs
      exact sp_anewa_T C har q2.1 q2.2 hd hcap kk
    · cases hs
  · cases hs
theorem sp_new (C : CX p l s m args meth c A D ca y b L xs) {j : Nat} (hcap : hC h' ≤ R.cells + B1 ∧ hZ h' ≤ R.slots + B2) (hd : decode (mCode y) pc = .ok (.new j, len)) (hs : stpR y (.new j) len pc lo st h = some (.inl (pc', lo', st', h'))) (kk : WS p l e R s m args below meth c A D ca y b L xs B1 B2 Q ρ0 n0 pc' lo' st' h') : WS p l e R s m args below meth c A D ca y b L xs B1 B2 Q ρ0 n0 pc lo st h := by
  simp only [stpR] at hs
  replace hs := gL_some hs
  obtain ⟨q, hs⟩ := hs
  obtain rfl := eq_of_beq q
  split at hs
  · rename_i ci hn
    obtain ⟨rfl, rfl, rfl, rfl⟩ := go_some hs
    exact sp_new_T C hn hd hcap kk
  · split at hs
    · replace hs := (gL_some hs).2
      cases hs
    · cases hs
theorem ldcwF {T : State} {H : Heap} {locs : List Loc} {cells slots : Nat} (X : Stand p l e R s m args below meth c T locs cells slots) (hexec : p.tables.exec = Jvm.exec) {own : String} {index : Nat} {v : UInt32} (hown : s.vm.findClass own = some m.cls)
    (hconst : (Cond.constantFloat own index v).before args s = true) {g : JFrame} (hg : g.method = m) (hdg : decode c.code g.pc = .ok (.ldc_w index, 3)) :
    ∀ target, Steps p.tables e below (T.setTop { g with pc := g.pc + 3, stack := .float v :: g.stack }) target → Steps p.tables e below (T.setTop g) target := by
  obtain ⟨k, cf, hk, hcf, hcp⟩ := Cond.constantFloat_spec hown hconst
  obtain ⟨k', hk', he⟩ := X.warmed.alike.2.2 _ _ hk
  intro target hrest
  subst hg
  jvm_step X.here [hexec, hdg, ldc_w.wp_float (s := T) (f := g) X.here.top hk' (by rw [he]; exact hcf) hcp]
  exact hrest
theorem lv_ldcwf {H : Heap} {locs : List Loc} {cells slots : Nat} {cc : ByteArray} {pc : Nat} {ls : Array Slot} {rest : List Value} (hexec : p.tables.exec = Jvm.exec) (hb : c.code = cc) {own : String} {index : Nat} {v : UInt32} (hown : s.vm.findClass own = some m.cls) (hconst : (Jvm.Cond.constantFloat own index v).before args s = true) (hdg : decode cc pc = .ok (.ldc_w index, 3)) (k : W p l e R s m args below meth c H locs cells slots Q (F0 m (pc + 3) ls (.float v :: rest))) : W p l e R s m args below meth c H locs cells slots Q (F0 m pc ls rest) := by
  intro T hT X
  obtain ⟨t, a, b⟩ := k T hT X
  exact ⟨t, ldcwF (H := H) X hexec hown hconst (g := F0 m pc ls rest) rfl (by rw [hb]; exact hdg) t a, b⟩
theorem sp_ldc (C : CX p l s m args meth c A D ca y b L xs) {j : Nat} (hd : decode (mCode y) pc = .ok (.ldc j, len)) (hs : stpR y (.ldc j) len pc lo st h = some (.inl (pc', lo', st', h'))) (kk : WS p l e R s m args below meth c A D ca y b L xs B1 B2 Q ρ0 n0 pc' lo' st' h') : WS p l e R s m args below meth c A D ca y b L xs B1 B2 Q ρ0 n0 pc lo st h := by
  obtain ⟨hx, hb, hml, hown, hts, -⟩ := id C
  simp only [stpR] at hs
  replace hs := gL_some hs
  obtain ⟨q, hs⟩ := hs
  obtain rfl := eq_of_beq q
  split at hs
  · rename_i v hv
    obtain ⟨rfl, rfl, rfl, rfl⟩ := go_some hs
    rcases lres_ok hv with ⟨x, rfl, hw⟩ | ⟨x, rfl, hw⟩
    · exact WS.same C VS.float (fun H locs cells slots ls ρ _ _ k => lv_ldcf hx hb hown (hts _ hw) hd k) kk
    · exact WS.same C VS.int (fun H locs cells slots ls ρ _ _ k => lv_ldc hx hb hown (hts _ hw) hd k) kk
  · cases hs
theorem sp_ldc_w (C : CX p l s m args meth c A D ca y b L xs) {j : Nat} (hd : decode (mCode y) pc = .ok (.ldc_w j, len)) (hs : stpR y (.ldc_w j) len pc lo st h = some (.inl (pc', lo', st', h'))) (kk : WS p l e R s m args below meth c A D ca y b L xs B1 B2 Q ρ0 n0 pc' lo' st' h') : WS p l e R s m args below meth c A D ca y b L xs B1 B2 Q ρ0 n0 pc lo st h := by
  obtain ⟨hx, hb, hml, hown, hts, -⟩ := id C
  simp only [stpR] at hs
  replace hs := gL_some hs
  obtain ⟨q, hs⟩ := hs
  obtain rfl := eq_of_beq q
  split at hs
  · rename_i v hv
    obtain ⟨rfl, rfl, rfl, rfl⟩ := go_some hs
    rcases lres_ok hv with ⟨x, rfl, hw⟩ | ⟨x, rfl, hw⟩
    · exact WS.same C VS.float (fun H locs cells slots ls ρ _ _ k => lv_ldcwf hx hb hown (hts _ hw) hd k) kk
    · exact WS.same C VS.int (fun H locs cells slots ls ρ _ _ k => lv_ldcw hx hb hown (hts _ hw) hd k) kk
  · cases hs
theorem cats {ρ : Nat → Nat} : ∀ {r : List Value}, r.all c1 = true → ((r.map (tr ρ)).map fun v => v.category).sum = r.length
  | [], _ => rfl
  | v :: r, h => by
    simp only [List.all_cons, Bool.and_eq_true] at h
    rw [List.map_cons, List.map_cons, List.sum_cons, cats h.2, tr_cat, c1_cat h.1, List.length_cons]
    omega
theorem sp_special (C : CX p l s m args meth c A D ca y b L xs) (hroom : 8 ≤ R.frames ∧ 100 ≤ R.locals) {j : Nat} (hd : decode (mCode y) pc = .ok (.invokespecial j, len)) (hs : stpR y (.invokespecial j) len pc lo st h = some (.inl (pc', lo', st', h'))) (kk : WS p l e R s m args below meth c A D ca y b L xs B1 B2 Q ρ0 n0 pc' lo' st' h') : WS p l e R s m args below meth c A D ca y b L xs B1 B2 Q ρ0 n0 pc lo st h := by
  obtain ⟨hx, hb, hml, hown, hts, -⟩ := id C
  simp only [stpR] at hs
  replace hs := gL_some hs
  obtain ⟨q, hs⟩ := hs
  obtain rfl := eq_of_beq q
  split at hs
  · split at hs
    · replace hs := (gL_some hs).2
      replace hs := (gL_some hs).2
      cases hs
    · cases hs
  · split at hs
    · replace hs := (gL_some hs).2
      replace hs := (gL_some hs).2
      cases hs
    · cases hs
  · rename_i hc
    split at hs
    · replace hs := gL_some hs
      obtain ⟨q2, hs⟩ := hs
      obtain ⟨rfl, rfl, rfl, rfl⟩ := go_some hs
      simp only [Bool.and_eq_true, decide_eq_true_eq] at q2
      obtain ⟨⟨qa, ql⟩, qc⟩ := q2
      intro ρ H locs cells slots ls hρ hn0 hST hLR hV e1 e2
      rw [List.map_cons, tr_ref (Nat.ne_of_gt (Nat.lt_of_succ_lt qa))]
      exact W.objInit hx hb hown (hts _ (cres_4 hc)) (hts _ wo_inst) (hts _ wo_code) rfl (by rw [hml]; exact hLR.2.1) rfl hd (by omega) (by
        show 2 * 0 + _ + 12 ≤ _
        rw [cats qc]; omega) (kk ρ H locs cells slots ls hρ hn0 hST hLR hV.tl e1 e2)
    · cases hs
  · cases hs
theorem sp_static (C : CX p l s m args meth c A D ca y b L xs) (hroom : 8 ≤ R.frames ∧ 100 ≤ R.locals) (hcap : hC h' ≤ R.cells + B1 ∧ hZ h' ≤ R.slots + B2) {j : Nat} (hd : decode (mCode y) pc = .ok (.invokestatic j, len)) (hs : stpR y (.invokestatic j) len pc lo st h = some (.inl (pc', lo', st', h'))) (kk : WS p l e R s m args below meth c A D ca y b L xs B1 B2 Q ρ0 n0 pc' lo' st' h') : WS p l e R s m args below meth c A D ca y b L xs B1 B2 Q ρ0 n0 pc lo st h := by
  obtain ⟨hx, hb, hml, hown, hts, -⟩ := id C
  simp only [stpR] at hs
  replace hs := gL_some hs
  obtain ⟨q, hs⟩ := hs
  obtain rfl := eq_of_beq q
  split at hs
  · replace hs := (gL_some hs).2
    cases hs
  · rename_i hc
    split at hs
    · replace hs := gL_some hs
      obtain ⟨q2, hs⟩ := hs
      obtain ⟨rfl, rfl, rfl, rfl⟩ := go_some hs
      simp only [Bool.and_eq_true, decide_eq_true_eq] at q2
      intro ρ H locs cells slots ls hρ hn0 hST hLR hV e1 e2
      exact va_mmax hx hb (by rw [hml]; exact hLR.2.1.symm) hown (hts _ (cres_5 hc)) (hts _ wmx_s) (hts _ wm_i) (hts _ wmx_c) (by omega) (by rw [cats q2.2]; omega) (by omega) (by omega) hd (kk ρ H locs cells slots ls hρ hn0 hST hLR (VS.int hV.tl.tl) e1 e2)
    · cases hs
  · rename_i hc
    split at hs
    · replace hs := gL_some hs
      obtain ⟨q2, hs⟩ := hs
      obtain ⟨rfl, rfl, rfl, rfl⟩ := go_some hs
      simp only [Bool.and_eq_true, decide_eq_true_eq] at q2
      intro ρ H locs cells slots ls hρ hn0 hST hLR hV e1 e2
      exact va_mmin hx hb (by rw [hml]; exact hLR.2.1.symm) hown (hts _ (cres_6 hc)) (hts _ wmi_s) (hts _ wm_i) (hts _ wmi_c) (by omega) (by rw [cats q2.2]; omega) (by omega) (by omega) hd (kk ρ H locs cells slots ls hρ hn0 hST hLR (VS.int hV.tl.tl) e1 e2)
    · cases hs
  · cases hs
end SND5
