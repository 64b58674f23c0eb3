/-! ===== the theorem: a run of the abstract machine is one of the machine ===== -/
theorem good_allw {L : List Cond} (h : ∀ w ∈ L, w ∈ ALLW) : GoodIn ALLW L := fun w hw => ⟨h w hw, good_of_word (allw_good (h w hw))⟩
theorem wsm_in {z : MI} (h : cw z ∈ ALLW) : ∀ w ∈ wsm z, w ∈ ALLW := fun w hw => (List.mem_cons.mp hw).elim (fun e => e ▸ h) id
section SND8
variable {p : Program} {l : Launch} {e : Env} {R : Room} {s : State} {m : MethodId} {args : Array Value} {below : List Frame} {meth : Method} {c : Code} {A : Nat → Prop} {D : va_G} {ca : Nat → ClassId} {y : MI} {b L : Nat} {xs : Nat → Int32} {B1 B2 : Nat} {Q : State → Prop} {ρ0 : Nat → Nat} {n0 : Nat}
variable {i : Instr} {len pc pc' : Nat} {lo lo' : Lo} {st st' : List Value} {h h' : HP}
/-- what the caller knows of the callee's start -/
theorem pre_call {ρ : Nat → Nat} {H : Heap} {locs : List Loc} {as : List Value} (C : CX p l s m args meth c A D ca y b L xs) (hST : ST ca D A b L xs ρ h s H locs) : ∀ U : State, U.heap = H → s.WarmedH U.vm → PQ ca D b L xs ρ h as H.size (as.map (tr ρ)).toArray U := by
  intro U hU hW
  obtain ⟨hx, hb, hml, hown, hts, hlk, hrt, hex, hin, hGT, hGH, hA, hl⟩ := C
  obtain ⟨hP, hD, hS, hwf, hr1, hr2, hr3⟩ := hST
  refine ⟨rfl, by rw [hU], by rw [hU]; exact hP, hD.weaken (fun _ _ _ _ => trivial), hwf, hr1, hr2, hr3, GT.warm hW hGT, ?_⟩
  rw [hU]
  refine GH.moved hW.alike ((hGH.kept hS.1 hS.2.1).narrow (fun q hq => ?_))
  rcases hq with ⟨k, e, hk⟩ | hq
  · exact hD.2 k _ hk
  · exact hA q (Nat.le_trans hS.1 hq)
theorem sub_call {ρ : Nat → Nat} {H : Heap} {locs : List Loc} (C : CX p l s m args meth c A D ca y b L xs) (hST : ST ca D A b L xs ρ h s H locs) : ∀ q, va_A (wso ca ρ h) H.size q → A q := by
  intro q hq
  obtain ⟨hx, hb, hml, hown, hts, hlk, hrt, hex, hin, hGT, hGH, hA, hl⟩ := C
  obtain ⟨hP, hD, hS, hwf, hr1, hr2, hr3⟩ := hST
  rcases hq with ⟨k, e, hk⟩ | hq
  · exact hD.2 k _ hk
  · exact hA q (Nat.le_trans hS.1 hq)
/-- behind a call that returns -/
theorem back_ret {ρ : Nat → Nat} {H : Heap} {locs : List Loc} {cells slots mc ms : Nat} {ls : Array Slot} {rest : List Value} {st0 : List Value} {h1 : HP} {v : Option Value} {ar : Array Value} (C : CX p l s m args meth c A D ca y b L xs) (hST : ST ca D A b L xs ρ h s H locs) (hρ : ∀ a, a < n0 → ρ a = ρ0 a) (hn0 : n0 ≤ hN h) (hLR : LR ρ (hN h) (mML y) ls lo) (hVr : VS (hN h) rest) (e1 : cells + B1 = hC h) (e2 : slots + B2 = hZ h) (hmc : hC h1 = hC h + mc) (hms : hZ h1 = hZ h + ms)
    (hr : va_Run p l e R s m args below meth c H locs cells slots mc ms (F0 m pc ls st0) (rest.map (tr ρ)) (RQ ca D (va_A (wso ca ρ h) H.size) b L xs ρ (hN h) (.inl v) h1 ar) (va_A (wso ca ρ h) H.size)) (kk : WS p l e R s m args below meth c A D ca y b L xs B1 B2 Q ρ0 n0 (pc + 3) lo (v.toList ++ rest) h1) : W p l e R s m args below meth c H locs cells slots Q (F0 m pc ls st0) := by
  have hsub := sub_call C hST
  refine callG hr hST.2.2.1 (fun q _ h => hsub q h) hsub (fun st oc t hq => hq.2) (fun v1 st₀ t H1 locs1 hq ht hS1 => ?_)
  obtain ⟨⟨v2, ρ', ho, hoc, hvs, g1, g2, g3, g4, g5, g6⟩, -⟩ := hq
  cases ho
  cases hoc
  have hw := kk ρ' H1 locs1 (cells + mc) (slots + ms) ls (fun a ha => (g1 a (by omega)).trans (hρ a ha)) (by omega) ⟨by rw [← ht]; exact g3, g4.weaken (fun _ q _ hq => hsub q.1 hq), hS1, g5, g6⟩ (hLR.agree g1 g2) (fun w hw => (List.mem_append.mp hw).elim (fun h => hvs w h) (fun h => (hVr w h).mono g2)) (by omega) (by omega)
  rw [List.map_append, trs_agree g1 hVr] at hw
  have e : (v.map (tr ρ')).toList = v.toList.map (tr ρ') := by cases v <;> rfl
  rw [e]
  exact hw
theorem cl_own {z : MI} (h : mOwn z < 13) : clN (mOwn z) = ownR (mOwn z) := own_cl h
theorem room_ok {d mc ms : Nat} {z : MI} (hz : mML z ≤ 21) (hroom : d + 1 + 8 ≤ R.frames ∧ 100 + 40 * (d + 1) ≤ R.locals) : (rmOf d mc ms).frames + 1 ≤ R.frames ∧ 8 + (mML z + 11) + (rmOf d mc ms).locals ≤ R.locals := by
  refine ⟨?_, ?_⟩
  · show d + 8 + 1 ≤ _
    omega
  · show 8 + (mML z + 11) + (100 + 40 * d) ≤ _
    omega
theorem rest8 {ρ : Nat → Nat} {rest : List Value} (h1 : rest.length ≤ 4) (h2 : rest.all c1 = true) {ls : Array Slot} {st0 : List Value} : 2 * (F0 m pc ls st0).monitorRoom + ((rest.map (tr ρ)).map fun v => v.category).sum ≤ 8 := by
  show 2 * 0 + _ ≤ 8
  rw [cats h2]
  omega
/-- the arguments of an instance method: the receiver first -/
theorem as_recv {as : List Value} {rest : List Value} {k b0 : Nat} (hlen : as.length = k + 1) (hst : st = as.reverse ++ rest) (hb : st[k]? = some (.ref b0)) : ∃ r, as = .ref b0 :: r ∧ r.length = k := by
  cases as with
  | nil => simp at hlen
  | cons a r =>
    have hr : r.length = k := by simpa using hlen
    refine ⟨r, ?_, hr⟩
    subst hst
    rw [List.reverse_cons, List.append_assoc, List.getElem?_append_right (by rw [List.length_reverse]; omega), List.length_reverse, hr, Nat.sub_self] at hb
    simp at hb
    rw [hb]
theorem call_virt (C : CX p l s m args meth c A D ca y b L xs) {d j b0 : Nat} {z : MI} {as rest r : List Value} {h1 : HP} {v : Option Value} (hroom : d + 1 + 8 ≤ R.frames ∧ 100 + 40 * (d + 1) ≤ R.locals) (hcap : hC h1 ≤ R.cells + B1 ∧ hZ h1 ≤ R.slots + B2) (hg : GRW h h1) (hd : decode (mCode y) pc = .ok (.invokevirtual j, 3)) (hcr : cres (mOwn y) j = some (0, z)) (hk : hK h b0 = mOwn z) (hb1 : 1 < b0) (hr : rest.length ≤ 4) (hrc : rest.all c1 = true) (has : as = .ref b0 :: r) (hrl : r.length = mNa z)
    (hcon : CON l d z as h (.inl v) h1) (kk : WS p l e R s m args below meth c A D ca y b L xs B1 B2 Q ρ0 n0 (pc + 3) lo (v.toList ++ rest) h1) : WS p l e R s m args below meth c A D ca y b L xs B1 B2 Q ρ0 n0 pc lo (as.reverse ++ rest) h := by
  obtain ⟨hx, hb, hml, hown, hts, hlk, hrt, hex, hin, hGT, hGH, hA, hl⟩ := id C
  obtain ⟨⟨y1, y2, y3, y4, y5, y6, y7, y8, y9⟩, z2, z3, z4, z5, z6⟩ := cres_0 hcr
  obtain ⟨gN, gC, gZ⟩ := hg
  intro ρ H locs cells slots ls hρ hn0 hST hLR hV e1 e2
  have hVa : VS (hN h) as := fun w hw => hV w (List.mem_append_left _ (List.mem_reverse.mpr hw))
  have hVr : VS (hN h) rest := fun w hw => hV w (List.mem_append_right _ hw)
  obtain ⟨mc, hmc⟩ := Nat.exists_eq_add_of_le gC
  obtain ⟨ms, hms⟩ := Nat.exists_eq_add_of_le gZ
  have hM := (hcon ca D b L xs ρ H.size mc ms hVa hmc hms).1 v rfl
  obtain ⟨g1, g2⟩ := hST.2.2.2.1.ok (a := b0) (by omega) (by omega)
  have he := wso_at ca ρ g1 g2
  rw [cel_obj hk z2] at he
  have hw : wsm z = Cond.code (mNm z) (mCode z) (mML z) (mRet z) :: ALLW := by
    unfold wsm cw
    rw [if_pos (by rw [z3]; rfl)]
  have hrv := va_recv hGT.1 hST.1 (cl_at _ z2) he
  have hcn : (mNm z).cls = clN (mOwn z) := by rw [y2, cl_own z2]
  subst has
  have hpre := pre_call (as := .ref b0 :: r) C hST
  rw [List.map_cons, tr_ref (by omega)] at hpre
  refine back_ret C hST hρ hn0 hLR hVr e1 e2 hmc hms (va_runV (b := ρ b0) (As := r.map (tr ρ)) (rest := rest.map (tr ρ)) (C := (mNm z).cls) (n := mNa z) ⟨hx, hb, hml, hown, hts⟩ hM (cwV (mNa z) hts (good_allw (fun w hw => ?_)) hw rfl rfl ⟨rfl, y3, y4, y5⟩ (room_ok y6 hroom)) ⟨PQ_blind, by rw [hcn]; exact hrv, hpre⟩ rfl (by simpa using hrl) hLR.2.1 ?_ (rest8 hr hrc) hd ⟨by omega, by omega⟩) kk
  · unfold wsV at hw
    rcases List.mem_append.mp hw with hw | hw
    · simp only [List.mem_cons, List.not_mem_nil, or_false] at hw
      rcases hw with rfl | rfl | rfl | rfl
      · exact z4
      · exact z5
      · exact z6
      · exact y9
    · exact wsm_in y8 w hw
  · show List.map (tr ρ) _ = _
    rw [List.map_append, List.map_reverse, List.map_cons, tr_ref (by omega), List.reverse_cons, List.append_assoc]
    rfl
theorem call_stat (C : CX p l s m args meth c A D ca y b L xs) {d j : Nat} {z : MI} {as rest : List Value} {h1 : HP} {v : Option Value} (hroom : d + 1 + 8 ≤ R.frames ∧ 100 + 40 * (d + 1) ≤ R.locals) (hcap : hC h1 ≤ R.cells + B1 ∧ hZ h1 ≤ R.slots + B2) (hg : GRW h h1) (hd : decode (mCode y) pc = .ok (.invokestatic j, 3)) (hcr : cres (mOwn y) j = some (1, z)) (hr : rest.length ≤ 4) (hrc : rest.all c1 = true) (hrl : as.length = mNa z)
    (hcon : CON l d z as h (.inl v) h1) (kk : WS p l e R s m args below meth c A D ca y b L xs B1 B2 Q ρ0 n0 (pc + 3) lo (v.toList ++ rest) h1) : WS p l e R s m args below meth c A D ca y b L xs B1 B2 Q ρ0 n0 pc lo (as.reverse ++ rest) h := by
  obtain ⟨hx, hb, hml, hown, hts, hlk, hrt, hex, hin, hGT, hGH, hA, hl⟩ := id C
  obtain ⟨⟨y1, y2, y3, y4, y5, y6, y7, y8, y9⟩, z4, z5⟩ := cres_1 hcr
  obtain ⟨gN, gC, gZ⟩ := hg
  intro ρ H locs cells slots ls hρ hn0 hST hLR hV e1 e2
  have hVa : VS (hN h) as := fun w hw => hV w (List.mem_append_left _ (List.mem_reverse.mpr hw))
  have hVr : VS (hN h) rest := fun w hw => hV w (List.mem_append_right _ hw)
  obtain ⟨mc, hmc⟩ := Nat.exists_eq_add_of_le gC
  obtain ⟨ms, hms⟩ := Nat.exists_eq_add_of_le gZ
  have hM := (hcon ca D b L xs ρ H.size mc ms hVa hmc hms).1 v rfl
  have hpre := pre_call (as := as) C hST
  have hin2 : ∀ w ∈ va_wsS (ownR (mOwn y)) j (mNm z) (wsm z), w ∈ ALLW := fun w hw => by
    unfold va_wsS at hw
    rcases List.mem_append.mp hw with hw | hw
    · simp only [List.mem_cons, List.not_mem_nil, or_false] at hw
      rcases hw with rfl | rfl | rfl
      · exact z4
      · exact z5
      · exact y9
    · exact wsm_in y8 w hw
  have hstk : List.map (tr ρ) (as.reverse ++ rest) = (as.map (tr ρ)).reverse ++ rest.map (tr ρ) := by rw [List.map_append, List.map_reverse]
  cases hh : (mHH z).isEmpty with
  | true =>
    have hw : wsm z = Cond.code (mNm z) (mCode z) (mML z) (mRet z) :: ALLW := by
      unfold wsm cw
      rw [if_pos hh]
    exact back_ret C hST hρ hn0 hLR hVr e1 e2 hmc hms (va_runS (As := as.map (tr ρ)) (rest := rest.map (tr ρ)) (n := mNa z) ⟨hx, hb, hml, hown, hts⟩ hM (va_cwS (mNa z) hts (good_allw hin2) hw rfl rfl ⟨y3, y4, y5⟩ (room_ok y6 hroom)) ⟨PQ_blind, hpre⟩ rfl (by simpa using hrl) hLR.2.1 hstk (rest8 hr hrc) hd ⟨by omega, by omega⟩) kk
  | false =>
    have hw : wsm z = Cond.codeWith (mNm z) (mCode z) (mML z) (mRet z) (mHH z) :: ALLW := by
      unfold wsm cw
      rw [if_neg (by rw [hh]; decide)]
    exact back_ret C hST hρ hn0 hLR hVr e1 e2 hmc hms (vx_runSW (As := as.map (tr ρ)) (rest := rest.map (tr ρ)) (n := mNa z) ⟨hx, hb, hml, hown, hts⟩ hM (vx_cwSW (mNa z) hts (good_allw hin2) hw rfl rfl ⟨y3, y4, y5⟩ (room_ok y6 hroom)) ⟨PQ_blind, hpre⟩ rfl (by simpa using hrl) hLR.2.1 hstk (rest8 hr hrc) hd ⟨by omega, by omega⟩) kk
theorem call_init (C : CX p l s m args meth c A D ca y b L xs) {d j b0 k9 : Nat} {z : MI} {as rest r : List Value} {h1 : HP} {v : Option Value} (hroom : d + 1 + 8 ≤ R.frames ∧ 100 + 40 * (d + 1) ≤ R.locals) (hcap : hC h1 ≤ R.cells + B1 ∧ hZ h1 ≤ R.slots + B2) (hg : GRW h h1) (hd : decode (mCode y) pc = .ok (.invokespecial j, 3)) (hcr : cres (mOwn y) j = some (k9, z)) (hk9 : k9 = 2 ∨ k9 = 3) (hb1 : 1 < b0) (hr : rest.length ≤ 4) (hrc : rest.all c1 = true) (has : as = .ref b0 :: r) (hrl : r.length = mNa z)
    (hcon : CON l d z as h (.inl v) h1) (kk : WS p l e R s m args below meth c A D ca y b L xs B1 B2 Q ρ0 n0 (pc + 3) lo (v.toList ++ rest) h1) : WS p l e R s m args below meth c A D ca y b L xs B1 B2 Q ρ0 n0 pc lo (as.reverse ++ rest) h := by
  obtain ⟨hx, hb, hml, hown, hts, hlk, hrt, hex, hin, hGT, hGH, hA, hl⟩ := id C
  obtain ⟨gN, gC, gZ⟩ := hg
  intro ρ H locs cells slots ls hρ hn0 hST hLR hV e1 e2
  have hVa : VS (hN h) as := fun w hw => hV w (List.mem_append_left _ (List.mem_reverse.mpr hw))
  have hVr : VS (hN h) rest := fun w hw => hV w (List.mem_append_right _ hw)
  obtain ⟨mc, hmc⟩ := Nat.exists_eq_add_of_le gC
  obtain ⟨ms, hms⟩ := Nat.exists_eq_add_of_le gZ
  have hM := (hcon ca D b L xs ρ H.size mc ms hVa hmc hms).1 v rfl
  subst has
  have hpre := pre_call (as := .ref b0 :: r) C hST
  rw [List.map_cons, tr_ref (by omega)] at hpre
  have hstk : List.map (tr ρ) ((Value.ref b0 :: r).reverse ++ rest) = (r.map (tr ρ)).reverse ++ .ref (ρ b0) :: rest.map (tr ρ) := by
    rw [List.map_append, List.map_reverse, List.map_cons, tr_ref (by omega), List.reverse_cons, List.append_assoc]
    rfl
  rcases hk9 with rfl | rfl
  · obtain ⟨⟨y1, y2, y3, y4, y5, y6, y7, y8, y9⟩, z1, z2, z3, z4, z5⟩ := cres_2 hcr
    have hw : wsm z = Cond.code (mNm z) (mCode z) (mML z) none :: ALLW := by
      unfold wsm cw
      rw [if_pos (by rw [z3]; rfl), z2]
    exact back_ret C hST hρ hn0 hLR hVr e1 e2 hmc hms (va_runI (b := ρ b0) (As := r.map (tr ρ)) (rest := rest.map (tr ρ)) (n := mNa z) ⟨hx, hb, hml, hown, hts⟩ hM (cwI (mNa z) hts (good_allw (wsm_in y8)) hw rfl rfl (hts _ y9) (hts _ z4) (hts _ z5) (y7 z1) ⟨y3, y4, y5⟩ (room_ok y6 hroom)) ⟨PQ_blind, hpre⟩ rfl (by simpa using hrl) hLR.2.1 hstk (rest8 hr hrc) hd ⟨by omega, by omega⟩) kk
  · obtain ⟨⟨y1, y2, y3, y4, y5, y6, y7, y8, y9⟩, z1, z2, z3, z4, z5⟩ := cres_3 hcr
    have hw : wsm z = Cond.code (mNm z) (mCode z) (mML z) none :: ALLW := by
      unfold wsm cw
      rw [if_pos (by rw [z3]; rfl), z2]
    exact back_ret C hST hρ hn0 hLR hVr e1 e2 hmc hms (va_runIN (b := ρ b0) (As := r.map (tr ρ)) (rest := rest.map (tr ρ)) (n := mNa z) ⟨hx, hb, hml, hown, hts⟩ hM ⟨va_cnB (mNa z) hts (good_allw (wsm_in y8)) hw rfl rfl (hGT.2.2.1 _ _ _ z4) (hts _ y9) ⟨y3, y4, y5⟩ (room_ok y6 hroom), y7 z1, hts _ z5⟩ ⟨PQ_blind, hpre⟩ rfl (by simpa using hrl) hLR.2.1 hstk (rest8 hr hrc) hd ⟨by omega, by omega⟩) kk
end SND8
