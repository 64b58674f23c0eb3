/-! ===== exceptions through calls; the theorem by induction ===== -/
theorem hx_ok {k : Nat} {z : Nat × Nat} (h : hxT.find? (fun z => z.1 == k) = some z) : k ≠ 0 ∧ 1 ≤ z.2 ∧ z.2 ≤ 3 ∧ Cond.classLink RL k (exN z.2) ∈ ALLW := by
  have hm := List.mem_of_find?_eq_some h
  have hp := List.find?_some h
  rw [beq_iff_eq] at hp
  simp only [hxT, List.mem_cons, List.not_mem_nil, or_false] at hm
  subst hp
  rcases hm with rfl | rfl | rfl
  · exact ⟨by decide, by decide, by decide, wh_l1⟩
  · exact ⟨by decide, by decide, by decide, wh_l3⟩
  · exact ⟨by decide, by decide, by decide, wh_l2⟩
section SND9
variable {p : Program} {l : Launch} {e : Env} {R : Room} {s : State} {m : MethodId} {args : Array Value} {below : List Frame} {meth : Method} {c : Code} {A : Nat → Prop} {D : va_G} {ca : Nat → ClassId} {y : MI} {b L : Nat} {xs : Nat → Int32} {B1 B2 : Nat} {Q : State → Prop} {ρ0 : Nat → Nat} {n0 : Nat}
variable {i : Instr} {len pc pc' : Nat} {lo lo' : Lo} {st st' : List Value} {h h' : HP}
theorem catch_go (C : CX p l s m args meth c A D ca y b L xs) {x : Nat} {h1 : HP} {ρ : Nat → Nat} {H : Heap} {locs : List Loc} {cells slots : Nat} {ls : Array Slot} {rest0 : List Value} {qa : Addr} {ce : Cell} (hh : hdl y pc x lo = some (pc', lo')) (hρ : ∀ a, a < n0 → ρ a = ρ0 a) (hn0 : n0 ≤ hN h1) (hST : ST ca D A b L xs ρ h1 s H locs) (hLR : LR ρ (hN h1) (mML y) ls lo) (e1 : cells + B1 = hC h1) (e2 : slots + B2 = hZ h1) (hce : H[qa]? = some ce) (hcv : ce.vm = .none) (hcl : s.vm.findClass (exN x) = some ce.cls) (kk : WS p l e R s m args below meth c A D ca y b L xs B1 B2 Q ρ0 n0 pc' lo' [] h1) : vx_W p l e R s m args below meth c H locs cells slots Q (F0 m pc ls rest0) qa := by
  obtain ⟨hx, hb, hml, hown, hts, hlk, hrt, hex, hin, hGT, hGH, hA, hl⟩ := id C
  unfold hdl at hh
  split at hh
  · cases hh
  · rename_i q hq
    split at hh
    · cases hh
    · rename_i hcond
      have hcond : mOwn y = 13 ∧ 1 ≤ x ∧ x ≤ 3 ∧ (mHH y).all (fun q => (hxT.find? (fun z => z.1 == q.2.2.2)).isSome) = true := by
        refine ⟨?_, ?_, ?_, ?_⟩
        · exact Classical.byContradiction fun n => hcond (Or.inl n)
        · exact Classical.byContradiction fun n => hcond (Or.inr (Or.inl (by omega)))
        · exact Classical.byContradiction fun n => hcond (Or.inr (Or.inr (Or.inl (by omega))))
        · exact Classical.byContradiction fun n => hcond (Or.inr (Or.inr (Or.inr (by simpa using n))))
      obtain ⟨c1', c2', c3', c4'⟩ := hcond
      rw [c1'] at hown
      have hown : s.vm.findClass RL = some m.cls := hown
      unfold hnd at hq
      obtain ⟨qd, hf, rfl⟩ := Option.map_eq_some_iff.mp hq
      obtain ⟨hp, pre, suf, hsp, hpre⟩ := List.find?_eq_some_iff_append.mp hf
      simp only [Bool.and_eq_true, decide_eq_true_eq, beq_iff_eq] at hp
      obtain ⟨⟨p1, p2⟩, p3⟩ := hp
      obtain ⟨zd, hzd, hze⟩ := Option.map_eq_some_iff.mp p3
      obtain ⟨n0', -, -, hlink⟩ := hx_ok hzd
      rw [hze] at hlink
      have hsplit : c.exceptionTable.toList = (pre.map fun q => (⟨q.1, q.2.1, q.2.2.1, q.2.2.2⟩ : ExceptionTableEntry)) ++ (⟨qd.1, qd.2.1, qd.2.2.1, qd.2.2.2⟩ : ExceptionTableEntry) :: (suf.map fun q => (⟨q.1, q.2.1, q.2.2.1, q.2.2.2⟩ : ExceptionTableEntry)) := by
        rw [hex, hsp]
        unfold tableOf
        rw [List.map_append, List.map_cons]
      refine vx_catch hown _ _ _ hsplit (fun z hz => ?_) ?_ n0' (hts _ hlink) ((hGT.2.2.2.1 x c2' c3').use rfl) hce hcv hcl ?_
      · obtain ⟨a, ha, rfl⟩ := List.mem_map.mp hz
        have hn := hpre a ha
        cases hcv9 : covers (⟨a.1, a.2.1, a.2.2.1, a.2.2.2⟩ : ExceptionTableEntry) pc with
        | false => exact Or.inl rfl
        | true =>
          refine Or.inr ?_
          have hmem : a ∈ mHH y := by rw [hsp]; exact List.mem_append_left _ ha
          have hs := List.all_eq_true.mp c4' a hmem
          obtain ⟨za, hza⟩ := Option.isSome_iff_exists.mp hs
          obtain ⟨k1, k2, k3, k4⟩ := hx_ok hza
          refine ⟨k1, exN za.2, hts _ k4, hGT.2.2.2.2.1 x za.2 c2' c3' k2 k3 (fun hxe => ?_)⟩
          unfold covers at hcv9
          simp only [Bool.and_eq_true, decide_eq_true_eq] at hcv9
          simp only [Bool.not_eq_true', Bool.and_eq_false_iff, decide_eq_false_iff_not, beq_eq_false_iff_ne, ne_eq] at hn
          rcases hn with (hn | hn) | hn
          · exact hn hcv9.1
          · exact hn hcv9.2
          · exact hn (by rw [hza, hxe]; rfl)
      · show (decide (qd.1 ≤ pc) && decide (pc < qd.2.1)) = true
        rw [decide_eq_true p1, decide_eq_true p2]
        rfl
      · show W p l e R s m args below meth c H locs cells slots Q (F0 m qd.2.2.1 ls [.ref qa])
        split at hh
        · rename_i k hd
          split at hh
          · rename_i hkl
            cases hh
            exact lv_astore hx hb hd hLR.has (by rw [← hLR.1]; exact hkl) rfl (fun ls' h' => kk ρ H locs cells slots ls' hρ hn0 hST (LR.drop hLR h') (fun v hv => by cases hv) e1 e2)
          · cases hh
        · rename_i k hd
          split at hh
          · rename_i hkl
            cases hh
            exact lv_astore_n hx hb hd rfl hLR.has (by rw [← hLR.1]; exact hkl) rfl (fun ls' h' => kk ρ H locs cells slots ls' hρ hn0 hST (LR.drop hLR h') (fun v hv => by cases hv) e1 e2)
          · cases hh
        · cases hh
/-- what becomes of an exception that a call threw -/
def AFTX (p : Program) (l : Launch) (e : Env) (R : Room) (s : State) (m : MethodId) (args : Array Value) (below : List Frame) (meth : Method) (c : Code) (A : Nat → Prop) (D : va_G) (ca : Nat → ClassId) (y : MI) (b L : Nat) (xs : Nat → Int32) (B1 B2 : Nat) (Q : State → Prop) (ρ0 : Nat → Nat) (n0 pc : Nat) (lo : Lo) (x : Nat) (h1 : HP) : Prop :=
  ∀ (ρ : Nat → Nat) (H : Heap) (locs : List Loc) (cells slots : Nat) (ls : Array Slot) (rest0 : List Value) (qa : Addr) (ce : Cell), 1 ≤ x → x ≤ 3 → (∀ a, a < n0 → ρ a = ρ0 a) → n0 ≤ hN h1 → ST ca D A b L xs ρ h1 s H locs → LR ρ (hN h1) (mML y) ls lo → cells + B1 = hC h1 → slots + B2 = hZ h1 → H[qa]? = some ce → ce.vm = .none → s.vm.findClass (exN x) = some ce.cls → vx_W p l e R s m args below meth c H locs cells slots Q (F0 m pc ls rest0) qa
theorem back_thr {ρ : Nat → Nat} {H : Heap} {locs : List Loc} {cells slots mc ms x : Nat} {ls : Array Slot} {rest0 st0 : List Value} {h1 : HP} {ar : Array Value} (C : CX p l s m args meth c A D ca y b L xs) (hST : ST ca D A b L xs ρ h s H locs) (hρ : ∀ a, a < n0 → ρ a = ρ0 a) (hn0 : n0 ≤ hN h) (hLR : LR ρ (hN h) (mML y) ls lo) (e1 : cells + B1 = hC h) (e2 : slots + B2 = hZ h) (hmc : hC h1 = hC h + mc) (hms : hZ h1 = hZ h + ms)
    (hr : vx_Run p l e R s m args below meth c H locs cells slots mc ms (F0 m pc ls st0) rest0 (RQ ca D (va_A (wso ca ρ h) H.size) b L xs ρ (hN h) (.inr x) h1 ar) (RX ca D (va_A (wso ca ρ h) H.size) b L xs ρ (hN h) (.inr x) h1) (va_A (wso ca ρ h) H.size)) (kx : AFTX p l e R s m args below meth c A D ca y b L xs B1 B2 Q ρ0 n0 pc lo x h1) : W p l e R s m args below meth c H locs cells slots Q (F0 m pc ls st0) := by
  have hsub := sub_call C hST
  refine callX hr hST.2.2.1 (fun q _ h => hsub q h) hsub (fun st oc t hq => ?_) (fun E st t hq => hq.2) (fun E ce qa st₀ t H1 locs1 hq ht hS1 hce hcv hcl => ?_)
  · obtain ⟨⟨v2, ρ', ho, -⟩, -⟩ := hq
    cases ho
  · obtain ⟨⟨x2, ρ', ho, x1, x3, rfl, g1, g2, g3, g4, g5, g6⟩, -⟩ := hq
    cases ho
    exact kx ρ' H1 locs1 (cells + mc) (slots + ms) ls rest0 qa ce x1 x3 (fun a ha => (g1 a (by omega)).trans (hρ a ha)) (by omega) ⟨by rw [← ht]; exact g3, g4.weaken (fun _ q _ hq => hsub q.1 hq), hS1, g5, g6⟩ (hLR.agree g1 g2) (by omega) (by omega) hce hcv hcl
theorem call_virtX (C : CX p l s m args meth c A D ca y b L xs) {d j b0 x : Nat} {z : MI} {as rest r : List Value} {h1 : HP} (hroom : d + 1 + 8 ≤ R.frames ∧ 100 + 40 * (d + 1) ≤ R.locals) (hcap : hC h1 ≤ R.cells + B1 ∧ hZ h1 ≤ R.slots + B2) (hg : GRW h h1) (hd : decode (mCode y) pc = .ok (.invokevirtual j, 3)) (hcr : cres (mOwn y) j = some (0, z)) (hk : hK h b0 = mOwn z) (hb1 : 1 < b0) (hr : rest.length ≤ 4) (hrc : rest.all c1 = true) (has : as = .ref b0 :: r) (hrl : r.length = mNa z)
    (hcon : CON l d z as h (.inr x) h1) (kx : AFTX p l e R s m args below meth c A D ca y b L xs B1 B2 Q ρ0 n0 pc lo x h1) : WS p l e R s m args below meth c A D ca y b L xs B1 B2 Q ρ0 n0 pc lo (as.reverse ++ rest) h := by
  obtain ⟨hx, hb, hml, hown, hts, hlk, hrt, hex, hin, hGT, hGH, hA, hl⟩ := id C
  obtain ⟨⟨y1, y2, y3, y4, y5, y6, y7, y8, y9⟩, z2, z3, z4, z5, z6⟩ := cres_0 hcr
  obtain ⟨gN, gC, gZ⟩ := hg
  intro ρ H locs cells slots ls hρ hn0 hST hLR hV e1 e2
  have hVa : VS (hN h) as := fun w hw => hV w (List.mem_append_left _ (List.mem_reverse.mpr hw))
  obtain ⟨mc, hmc⟩ := Nat.exists_eq_add_of_le gC
  obtain ⟨ms, hms⟩ := Nat.exists_eq_add_of_le gZ
  have hM := (hcon ca D b L xs ρ H.size mc ms hVa hmc hms).2 x rfl (by rw [z3]; rfl)
  obtain ⟨g1, g2⟩ := hST.2.2.2.1.ok (a := b0) (by omega) (by omega)
  have he := wso_at ca ρ g1 g2
  rw [cel_obj hk z2] at he
  have hw : wsm z = Cond.code (mNm z) (mCode z) (mML z) (mRet z) :: ALLW := by
    unfold wsm cw
    rw [if_pos (by rw [z3]; rfl)]
  have hrv := va_recv hGT.1 hST.1 (cl_at _ z2) he
  have hcn : (mNm z).cls = clN (mOwn z) := by rw [y2, cl_own z2]
  subst has
  have hpre := pre_call (as := .ref b0 :: r) C hST
  rw [List.map_cons, tr_ref (by omega)] at hpre
  refine back_thr C hST hρ hn0 hLR e1 e2 hmc hms (vx_runV (b := ρ b0) (As := r.map (tr ρ)) (rest := rest.map (tr ρ)) (C := (mNm z).cls) (n := mNa z) ⟨hx, hb, hml, hown, hts⟩ hM (cwV (mNa z) hts (good_allw (fun w hw => ?_)) hw rfl rfl ⟨rfl, y3, y4, y5⟩ (room_ok y6 hroom)) ⟨PQ_blind, by rw [hcn]; exact hrv, hpre⟩ rfl (by simpa using hrl) hLR.2.1 ?_ (rest8 hr hrc) hd ⟨by omega, by omega⟩) kx
  · unfold wsV at hw
    rcases List.mem_append.mp hw with hw | hw
    · simp only [List.mem_cons, List.not_mem_nil, or_false] at hw
      rcases hw with rfl | rfl | rfl | rfl
      · exact z4
      · exact z5
      · exact z6
      · exact y9
    · exact wsm_in y8 w hw
  · show List.map (tr ρ) _ = _
    rw [List.map_append, List.map_reverse, List.map_cons, tr_ref (by omega), List.reverse_cons, List.append_assoc]
    rfl
theorem call_statX (C : CX p l s m args meth c A D ca y b L xs) {d j x : Nat} {z : MI} {as rest : List Value} {h1 : HP} (hroom : d + 1 + 8 ≤ R.frames ∧ 100 + 40 * (d + 1) ≤ R.locals) (hcap : hC h1 ≤ R.cells + B1 ∧ hZ h1 ≤ R.slots + B2) (hg : GRW h h1) (hd : decode (mCode y) pc = .ok (.invokestatic j, 3)) (hcr : cres (mOwn y) j = some (1, z)) (hh : (mHH z).isEmpty = true) (hr : rest.length ≤ 4) (hrc : rest.all c1 = true) (hrl : as.length = mNa z)
    (hcon : CON l d z as h (.inr x) h1) (kx : AFTX p l e R s m args below meth c A D ca y b L xs B1 B2 Q ρ0 n0 pc lo x h1) : WS p l e R s m args below meth c A D ca y b L xs B1 B2 Q ρ0 n0 pc lo (as.reverse ++ rest) h := by
  obtain ⟨hx, hb, hml, hown, hts, hlk, hrt, hex, hin, hGT, hGH, hA, hl⟩ := id C
  obtain ⟨⟨y1, y2, y3, y4, y5, y6, y7, y8, y9⟩, z4, z5⟩ := cres_1 hcr
  obtain ⟨gN, gC, gZ⟩ := hg
  intro ρ H locs cells slots ls hρ hn0 hST hLR hV e1 e2
  have hVa : VS (hN h) as := fun w hw => hV w (List.mem_append_left _ (List.mem_reverse.mpr hw))
  obtain ⟨mc, hmc⟩ := Nat.exists_eq_add_of_le gC
  obtain ⟨ms, hms⟩ := Nat.exists_eq_add_of_le gZ
  have hM := (hcon ca D b L xs ρ H.size mc ms hVa hmc hms).2 x rfl hh
  have hpre := pre_call (as := as) C hST
  have hin2 : ∀ w ∈ va_wsS (ownR (mOwn y)) j (mNm z) (wsm z), w ∈ ALLW := fun w hw => by
    unfold va_wsS at hw
    rcases List.mem_append.mp hw with hw | hw
    · simp only [List.mem_cons, List.not_mem_nil, or_false] at hw
      rcases hw with rfl | rfl | rfl
      · exact z4
      · exact z5
      · exact y9
    · exact wsm_in y8 w hw
  have hstk : List.map (tr ρ) (as.reverse ++ rest) = (as.map (tr ρ)).reverse ++ rest.map (tr ρ) := by rw [List.map_append, List.map_reverse]
  have hw : wsm z = Cond.code (mNm z) (mCode z) (mML z) (mRet z) :: ALLW := by
    unfold wsm cw
    rw [if_pos hh]
  exact back_thr C hST hρ hn0 hLR e1 e2 hmc hms (vx_runS (As := as.map (tr ρ)) (rest := rest.map (tr ρ)) (n := mNa z) ⟨hx, hb, hml, hown, hts⟩ hM (va_cwS (mNa z) hts (good_allw hin2) hw rfl rfl ⟨y3, y4, y5⟩ (room_ok y6 hroom)) ⟨PQ_blind, hpre⟩ rfl (by simpa using hrl) hLR.2.1 hstk (rest8 hr hrc) hd ⟨by omega, by omega⟩) kx
end SND9
/-- which calls there are -/
theorem call_kind {y z : MI} {i : Instr} {len pc : Nat} {lo : Lo} {st as rest : List Value} {h : HP} (hs : stpR y i len pc lo st h = some (.inr (.inl (z, as, rest)))) : len = 3 ∧ rest.length ≤ 4 ∧ rest.all c1 = true ∧ as.all c1 = true ∧ st = as.reverse ++ rest ∧
    ((∃ j b0 r, i = .invokevirtual j ∧ cres (mOwn y) j = some (0, z) ∧ hK h b0 = mOwn z ∧ 1 < b0 ∧ as = .ref b0 :: r ∧ r.length = mNa z) ∨ (∃ j, i = .invokestatic j ∧ cres (mOwn y) j = some (1, z) ∧ as.length = mNa z) ∨ (∃ j k9 b0 r, i = .invokespecial j ∧ cres (mOwn y) j = some (k9, z) ∧ (k9 = 2 ∨ k9 = 3) ∧ 1 < b0 ∧ as = .ref b0 :: r ∧ r.length = mNa z)) := by
  cases i
  case invokevirtual j =>
    simp only [stpR] at hs
    obtain ⟨q, hs1⟩ := gL_some hs
    split at hs1
    · rename_i z1 hcr
      split at hs1
      · rename_i b0 hb
        obtain ⟨q2, hs2⟩ := gL_some hs1
        simp only [Bool.and_eq_true, decide_eq_true_eq, beq_iff_eq] at q2
        obtain ⟨rfl, k1, k2, k3, k4, k5⟩ := cll_spec hs2
        obtain ⟨r, hr1, hr2⟩ := as_recv k1 k5 hb
        exact ⟨eq_of_beq q, k2, k3, k4, k5, Or.inl ⟨j, b0, r, rfl, hcr, q2.2, q2.1, hr1, hr2⟩⟩
      · cases hs1
    · cases hs1
  case invokestatic j =>
    simp only [stpR] at hs
    obtain ⟨q, hs1⟩ := gL_some hs
    split at hs1
    · rename_i z1 hcr
      obtain ⟨rfl, k1, k2, k3, k4, k5⟩ := cll_spec hs1
      exact ⟨eq_of_beq q, k2, k3, k4, k5, Or.inr (Or.inl ⟨j, rfl, hcr, k1⟩)⟩
    · split at hs1
      · cases (gL_some hs1).2
      · cases hs1
    · split at hs1
      · cases (gL_some hs1).2
      · cases hs1
    · cases hs1
  case invokespecial j =>
    simp only [stpR] at hs
    obtain ⟨q, hs1⟩ := gL_some hs
    split at hs1
    · rename_i z1 hcr
      split at hs1
      · rename_i b0 hb
        obtain ⟨q2, hs2⟩ := gL_some hs1
        obtain ⟨rfl, k1, k2, k3, k4, k5⟩ := cll_spec hs2
        obtain ⟨r, hr1, hr2⟩ := as_recv k1 k5 hb
        exact ⟨eq_of_beq q, k2, k3, k4, k5, Or.inr (Or.inr ⟨j, 2, b0, r, rfl, hcr, Or.inl rfl, of_decide_eq_true q2, hr1, hr2⟩)⟩
      · cases hs1
    · rename_i z1 hcr
      split at hs1
      · rename_i b0 hb
        obtain ⟨q2, hs2⟩ := gL_some hs1
        obtain ⟨rfl, k1, k2, k3, k4, k5⟩ := cll_spec hs2
        obtain ⟨r, hr1, hr2⟩ := as_recv k1 k5 hb
        exact ⟨eq_of_beq q, k2, k3, k4, k5, Or.inr (Or.inr ⟨j, 3, b0, r, rfl, hcr, Or.inr rfl, of_decide_eq_true q2, hr1, hr2⟩)⟩
      · cases hs1
    · split at hs1
      · cases (gL_some hs1).2
      · cases hs1
    · cases hs1
  all_goals
    simp only [stpR] at hs
    try simp only [ldI, ldF, ldA, stI, stF, stA, ii2, ff2, br] at hs
    repeat' first
      | (replace hs := gLo hs)
      | split at hs
    all_goals (cases hs; done)
/-- the ends there are -/
theorem end_kind {y : MI} {i : Instr} {len pc : Nat} {lo : Lo} {st : List Value} {h h' : HP} {o : Out} (hs : stpR y i len pc lo st h = some (.inr (.inr (o, h')))) :
    (∃ v, o = .inl v ∧ h' = h ∧ len = 1 ∧ retI y i v = true ∧ st = v.toList) ∨ (∃ x j, o = .inr x ∧ h' = thr h ∧ len = 3 ∧ i = .new j ∧ thw y pc j = some x ∧ st.length ≤ 4 ∧ st.all c1 = true ∧ (mHH y).isEmpty = true) := by
  cases i
  case new j =>
    simp only [stpR] at hs
    obtain ⟨q, hs1⟩ := gL_some hs
    split at hs1
    · cases hs1
    · split at hs1
      · rename_i x hx
        obtain ⟨q2, hs2⟩ := gL_some hs1
        simp only [Bool.and_eq_true, decide_eq_true_eq] at q2
        cases hs2
        exact Or.inr ⟨x, j, rfl, rfl, eq_of_beq q, rfl, hx, q2.1.1, q2.1.2, q2.2⟩
      · cases hs1
  case ireturn =>
    simp only [stpR] at hs
    obtain ⟨q, hs1⟩ := gL_some hs
    split at hs1
    · obtain ⟨q2, hs2⟩ := gL_some hs1
      cases hs2
      exact Or.inl ⟨_, rfl, rfl, eq_of_beq q, q2, rfl⟩
    · cases hs1
  case freturn =>
    simp only [stpR] at hs
    obtain ⟨q, hs1⟩ := gL_some hs
    split at hs1
    · obtain ⟨q2, hs2⟩ := gL_some hs1
      cases hs2
      exact Or.inl ⟨_, rfl, rfl, eq_of_beq q, q2, rfl⟩
    · cases hs1
  case areturn =>
    simp only [stpR] at hs
    obtain ⟨q, hs1⟩ := gL_some hs
    split at hs1
    · obtain ⟨q2, hs2⟩ := gL_some hs1
      cases hs2
      exact Or.inl ⟨_, rfl, rfl, eq_of_beq q, q2, rfl⟩
    · cases hs1
  case return_ =>
    simp only [stpR] at hs
    obtain ⟨q, hs1⟩ := gL_some hs
    split at hs1
    · obtain ⟨q2, hs2⟩ := gL_some hs1
      cases hs2
      exact Or.inl ⟨none, rfl, rfl, eq_of_beq q, q2, rfl⟩
    · cases hs1
  all_goals
    simp only [stpR] at hs
    try simp only [ldI, ldF, ldA, stI, stF, stA, ii2, ff2, br, cll] at hs
    repeat' first
      | (replace hs := gLo hs)
      | split at hs
    all_goals (cases hs; done)
theorem inn_all : ∀ n, INN n := by
  intro n
  induction n with
  | zero =>
    intro d y pc lo st h o h' hex
    simp [ex] at hex
  | succ n ih =>
    intro d y pc lo st h o h' hex p l e R s m args below meth c A D ca b L xs B1 B2 Q ρ0 n0 C hroom hcap hFR hFT hFP
    rw [ex] at hex
    cases hd : decode (mCode y) pc with
    | error er => rw [hd] at hex; simp at hex
    | ok il =>
      obtain ⟨i, len⟩ := il
      rw [hd] at hex
      simp only at hex
      cases hs : stpR y i len pc lo st h with
      | none => rw [hs] at hex; simp at hex
      | some sr =>
        rw [hs] at hex
        rcases sr with ⟨pc', lo', st', h1⟩ | ⟨z, as, rest⟩ | ⟨o', h1⟩
        · simp only at hex
          have hg := ex_grw _ _ _ _ _ _ _ _ hex
          have hg0 := stp_grw hs
          have g1 : hC h1 ≤ hC h' := hg.2.1
          have g2 : hZ h1 ≤ hZ h' := hg.2.2
          have g3 : hC h ≤ hC h1 := hg0.2.1
          have g4 : hZ h ≤ hZ h1 := hg0.2.2
          exact step_snd C ⟨by omega, by omega⟩ ⟨by omega, by omega⟩ ⟨by omega, by omega⟩ hd hs (ih d y pc' lo' st' h1 o h' hex p l e R s m args below meth c A D ca b L xs B1 B2 Q ρ0 n0 C hroom hcap hFR hFT hFP)
        · simp only at hex
          obtain ⟨rfl, k2, k3, k4, rfl, hkind⟩ := call_kind hs
          cases d with
          | zero => simp at hex
          | succ d' =>
            simp only at hex
            by_cases hl : as.length ≤ mML z
            case neg => rw [if_neg hl] at hex; simp at hex
            rw [if_pos hl] at hex
            cases hc : ex n d' z 0 (ent z as) [] h with
            | none => rw [hc] at hex; simp at hex
            | some q =>
              rw [hc] at hex
              obtain ⟨o1, h1⟩ := q
              have hg1 : GRW h h1 := ex_grw _ _ _ _ _ _ _ _ hc
              have hl9 := C.2.2.2.2.2.2.2.2.2.2.2.2
              rcases o1 with v | x
              · simp only at hex
                have hg := ex_grw _ _ _ _ _ _ _ _ hex
                have g1 : hC h1 ≤ hC h' := hg.2.1
                have g2 : hZ h1 ≤ hZ h' := hg.2.2
                have hkk := ih (d' + 1) y (pc + 3) lo (v.toList ++ rest) h1 o h' hex p l e R s m args below meth c A D ca b L xs B1 B2 Q ρ0 n0 C hroom hcap hFR hFT hFP
                rcases hkind with ⟨j, b0, r, rfl, hcr, q1, q2, q3, q4⟩ | ⟨j, rfl, hcr, q1⟩ | ⟨j, k9, b0, r, rfl, hcr, q1, q2, q3, q4⟩
                · exact call_virt C hroom ⟨by omega, by omega⟩ hg1 hd hcr q1 q2 k2 k3 q3 q4 (con_of ih hc (cres_0 hcr).1 k4 hl hl9) hkk
                · exact call_stat C hroom ⟨by omega, by omega⟩ hg1 hd hcr k2 k3 q1 (con_of ih hc (cres_1 hcr).1 k4 hl hl9) hkk
                · exact call_init C hroom ⟨by omega, by omega⟩ hg1 hd hcr q1 q2 k2 k3 q3 q4 (con_of ih hc (by rcases q1 with rfl | rfl; exact (cres_2 hcr).1; exact (cres_3 hcr).1) k4 hl hl9) hkk
              · simp only at hex
                by_cases hz : (mHH z).isEmpty = true ∧ mIni z = false
                case neg => rw [if_neg hz] at hex; simp at hex
                rw [if_pos hz] at hex
                obtain ⟨hz1, hz2⟩ := hz
                have hA : AFTX p l e R s m args below meth c A D ca y b L xs B1 B2 Q ρ0 n0 pc lo x h1 ∧ hC h1 ≤ hC h' ∧ hZ h1 ≤ hZ h' := by
                  cases hh : hnd y pc x with
                  | none =>
                    rw [hh] at hex
                    simp only at hex
                    split at hex
                    · rename_i hhe
                      cases hex
                      refine ⟨?_, Nat.le_refl _, Nat.le_refl _⟩
                      intro ρ H locs cells slots ls rest0 qa ce x1 x3 hρ hn0 hST hLR e1 e2 hce hcv hcl
                      exact hFP x rfl hhe ρ H locs cells slots ls pc rest0 qa ce x1 x3 hρ hn0 hST e1 e2 hce hcv hcl hLR.2.1
                    · cases hex
                  | some q0 =>
                    rw [hh] at hex
                    simp only at hex
                    cases hq : hdl y pc x lo with
                    | none => rw [hq] at hex; simp at hex
                    | some pl =>
                      rw [hq] at hex
                      obtain ⟨pc2, lo2⟩ := pl
                      simp only at hex
                      have hg := ex_grw _ _ _ _ _ _ _ _ hex
                      refine ⟨?_, hg.2.1, hg.2.2⟩
                      have hkk := ih (d' + 1) y pc2 lo2 [] h1 o h' hex p l e R s m args below meth c A D ca b L xs B1 B2 Q ρ0 n0 C hroom hcap hFR hFT hFP
                      intro ρ H locs cells slots ls rest0 qa ce x1 x3 hρ hn0 hST hLR e1 e2 hce hcv hcl
                      exact catch_go C hq hρ hn0 hST hLR e1 e2 hce hcv hcl hkk
                obtain ⟨hAX, g1, g2⟩ := hA
                rcases hkind with ⟨j, b0, r, rfl, hcr, q1, q2, q3, q4⟩ | ⟨j, rfl, hcr, q1⟩ | ⟨j, k9, b0, r, rfl, hcr, q1, q2, q3, q4⟩
                · exact call_virtX C hroom ⟨by omega, by omega⟩ hg1 hd hcr q1 q2 k2 k3 q3 q4 (con_of ih hc (cres_0 hcr).1 k4 hl hl9) hAX
                · exact call_statX C hroom ⟨by omega, by omega⟩ hg1 hd hcr hz1 k2 k3 q1 (con_of ih hc (cres_1 hcr).1 k4 hl hl9) hAX
                · exfalso
                  rcases q1 with rfl | rfl
                  · rw [(cres_2 hcr).2.1] at hz2; cases hz2
                  · rw [(cres_3 hcr).2.1] at hz2; cases hz2
        · simp only [Option.some.injEq, Prod.mk.injEq] at hex
          obtain ⟨rfl, rfl⟩ := hex
          rcases end_kind hs with ⟨v, ho, rfl, rfl, hri, rfl⟩ | ⟨x, j, ho, he, rfl, rfl, hx, hsl, hsc, hhe⟩
          · exact hFR v ho i pc lo hd hri
          · exact hFT x ho pc lo st h j he hd hx hsl hsc hhe
