/-! ===== arrays ===== -/
section SND4
variable {p : Program} {l : Launch} {e : Env} {R : Room} {s : State} {m : MethodId} {args : Array Value} {below : List Frame} {meth : Method} {c : Code} {A : Nat → Prop} {D : va_G} {ca : Nat → ClassId} {y : MI} {b L : Nat} {xs : Nat → Int32} {B1 B2 : Nat} {Q : State → Prop} {ρ0 : Nat → Nat} {n0 : Nat}
variable {i : Instr} {len pc pc' : Nat} {lo lo' : Lo} {st st' : List Value} {h h' : HP}
/-- a store into an array: what the new heap must be -/
theorem ST.arr {ρ : Nat → Nat} {H H1 : Heap} {locs locs1 : List Loc} {h h1 : HP} {a t : Nat} {x : va_E} (hST : ST ca D A b L xs ρ h s H locs) (ht : hK h a = 20 + t) (htl : t < 10)
    (zN : hN h1 = hN h) (zK : hK h1 = hK h) (zL : hL h1 = hL h) (zo : ∀ c, c ≠ a → cel ca ρ h1 c = cel ca ρ h c) (z1 : ∀ i, hAI h1 1 i = hAI h 1 i) (zR : hR h1 = hR h) (zAR : ∀ a i, hAR h1 a i < hN h) (hx : acel ca ρ h1 a t = x)
    (hP1 : va_P D vwCl ((wso ca ρ h).set (a - 2) (ρ a, x)) H1) (hD1 : va_D A ((wso ca ρ h).set (a - 2) (ρ a, x))) (hS1 : va_S A s.heap H1 locs1) : ST ca D A b L xs ρ h1 s H1 locs1 := by
  obtain ⟨hP, hD, hS, hwf, hr1, hr2, hr3⟩ := hST
  obtain ⟨g1, g2⟩ := hwf.ok (a := a) (by omega) (by omega)
  have e : wso ca ρ h1 = (wso ca ρ h).set (a - 2) (ρ a, x) := by
    rw [wso_set ca ρ zN zo g1 g2, cel_arr (by rw [zK]; exact ht), hx]
  obtain ⟨w1, w2, w3, w4, w5, w6⟩ := hwf
  exact ⟨by rw [e]; exact hP1, by rw [e]; exact hD1, hS1, ⟨by rw [zN, zK]; exact w1, by rw [zK]; exact w2, by rw [zK]; exact w3, by rw [zN]; exact w4, by rw [zN, zR]; exact w5, by rw [zN]; exact zAR⟩, hr1, by rw [zL]; exact hr2, fun i hi => by rw [z1]; exact hr3 i hi⟩
theorem upd_u2 {α : Type} (f : Nat → Nat → α) (a i : Nat) (x : α) : (u2 f a i x) a = (fun j => if j = i then x else f a j) := by
  funext j
  simp [u2]
theorem sp_ald_int (C : CX p l s m args meth c A D ca y b L xs) {a : Nat} {i : Int32} {r : List Value} (qk : hK h a = 20) (hi : vp_in i (hL h a)) (hd : decode (mCode y) pc = .ok (.iaload, 1)) (kk : WS p l e R s m args below meth c A D ca y b L xs B1 B2 Q ρ0 n0 (pc + 1) lo (.int (hAI h a i.toNatClampNeg) :: r) h) : WS p l e R s m args below meth c A D ca y b L xs B1 B2 Q ρ0 n0 pc lo (.int i :: .ref a :: r) h := by
  obtain ⟨hx, hb, hml, hown, hts, hlk, hrt, hex, hin, hGT, hGH, hA, hl⟩ := id C
  intro ρ H locs cells slots ls hρ hn0 hST hLR hV e1 e2
  obtain ⟨hP, hD, hS, hwf, hr1, hr2, hr3⟩ := id hST
  obtain ⟨g1, g2⟩ := hwf.ok (a := a) (by omega) (by omega)
  have he := wso_at ca ρ g1 g2
  rw [cel_arr (t := 0) qk] at he
  have kw := kk ρ H locs cells slots ls hρ hn0 hST hLR (VS.int hV.tl.tl) e1 e2
  rw [List.map_cons, List.map_cons, tr_ref (a := a) (by omega)]
  exact va_iald hx hb hGT.1 hP (a - 2) 0 he (tys_at ca (t := 0) (by omega)) hi hd kw
theorem sp_ald_scr (C : CX p l s m args meth c A D ca y b L xs) {a : Nat} {i : Int32} {r : List Value} (qk : hK h a = 19) (hi : vp_in i (hL h a)) (hd : decode (mCode y) pc = .ok (.iaload, 1)) (kk : WS p l e R s m args below meth c A D ca y b L xs B1 B2 Q ρ0 n0 (pc + 1) lo (.int (hAI h a i.toNatClampNeg) :: r) h) : WS p l e R s m args below meth c A D ca y b L xs B1 B2 Q ρ0 n0 pc lo (.int i :: .ref a :: r) h := by
  obtain ⟨hx, hb, hml, hown, hts, hlk, hrt, hex, hin, hGT, hGH, hA, hl⟩ := id C
  intro ρ H locs cells slots ls hρ hn0 hST hLR hV e1 e2
  obtain ⟨hP, hD, hS, hwf, hr1, hr2, hr3⟩ := id hST
  have ha1 := (hwf.2.2.1 a).mp qk
  subst ha1
  have kw := kk ρ H locs cells slots ls hρ hn0 hST hLR (VS.int hV.tl.tl) e1 e2
  rw [List.map_cons, List.map_cons, tr_ref (a := 1) (by omega), hr1]
  obtain ⟨k1, k2, k3, -⟩ := hGH
  rw [hr2] at hi
  have hlt : i.toNatClampNeg < L := Nat.not_le.mp fun q => hi (Or.inr q)
  rw [hr3 _ hlt] at kw
  exact va_sld hx hb k1 k2 k3 hS hi hd kw
theorem sp_baload_T (C : CX p l s m args meth c A D ca y b L xs) {a : Nat} {i : Int32} {r : List Value} (qk : hK h a = 21) (hi : vp_in i (hL h a)) (hd : decode (mCode y) pc = .ok (.baload, 1)) (kk : WS p l e R s m args below meth c A D ca y b L xs B1 B2 Q ρ0 n0 (pc + 1) lo (.int (hAI h a i.toNatClampNeg) :: r) h) : WS p l e R s m args below meth c A D ca y b L xs B1 B2 Q ρ0 n0 pc lo (.int i :: .ref a :: r) h := by
  obtain ⟨hx, hb, hml, hown, hts, hlk, hrt, hex, hin, hGT, hGH, hA, hl⟩ := id C
  intro ρ H locs cells slots ls hρ hn0 hST hLR hV e1 e2
  obtain ⟨hP, hD, hS, hwf, hr1, hr2, hr3⟩ := id hST
  obtain ⟨g1, g2⟩ := hwf.ok (a := a) (by omega) (by omega)
  have he := wso_at ca ρ g1 g2
  rw [cel_arr (t := 1) qk] at he
  have kw := kk ρ H locs cells slots ls hρ hn0 hST hLR (VS.int hV.tl.tl) e1 e2
  rw [List.map_cons, List.map_cons, tr_ref (a := a) (by omega)]
  exact va_zald hx hb hGT.1 hP (a - 2) 1 he (tys_at ca (t := 1) (by omega)) hi hd kw
theorem sp_faload_T (C : CX p l s m args meth c A D ca y b L xs) {a : Nat} {i : Int32} {r : List Value} (qk : hK h a = 22) (hi : vp_in i (hL h a)) (hd : decode (mCode y) pc = .ok (.faload, 1)) (kk : WS p l e R s m args below meth c A D ca y b L xs B1 B2 Q ρ0 n0 (pc + 1) lo (.float (hAF h a i.toNatClampNeg) :: r) h) : WS p l e R s m args below meth c A D ca y b L xs B1 B2 Q ρ0 n0 pc lo (.int i :: .ref a :: r) h := by
  obtain ⟨hx, hb, hml, hown, hts, hlk, hrt, hex, hin, hGT, hGH, hA, hl⟩ := id C
  intro ρ H locs cells slots ls hρ hn0 hST hLR hV e1 e2
  obtain ⟨hP, hD, hS, hwf, hr1, hr2, hr3⟩ := id hST
  obtain ⟨g1, g2⟩ := hwf.ok (a := a) (by omega) (by omega)
  have he := wso_at ca ρ g1 g2
  rw [cel_arr (t := 2) qk] at he
  have kw := kk ρ H locs cells slots ls hρ hn0 hST hLR (VS.float hV.tl.tl) e1 e2
  rw [List.map_cons, List.map_cons, tr_ref (a := a) (by omega)]
  exact va_fald hx hb hGT.1 hP (a - 2) 2 he (tys_at ca (t := 2) (by omega)) hi hd kw
theorem sp_laload_T (C : CX p l s m args meth c A D ca y b L xs) {a : Nat} {i : Int32} {r : List Value} (qk : hK h a = 23) (hi : vp_in i (hL h a)) (hd : decode (mCode y) pc = .ok (.laload, 1)) (kk : WS p l e R s m args below meth c A D ca y b L xs B1 B2 Q ρ0 n0 (pc + 1) lo (.long (hAL h a i.toNatClampNeg) :: r) h) : WS p l e R s m args below meth c A D ca y b L xs B1 B2 Q ρ0 n0 pc lo (.int i :: .ref a :: r) h := by
  obtain ⟨hx, hb, hml, hown, hts, hlk, hrt, hex, hin, hGT, hGH, hA, hl⟩ := id C
  intro ρ H locs cells slots ls hρ hn0 hST hLR hV e1 e2
  obtain ⟨hP, hD, hS, hwf, hr1, hr2, hr3⟩ := id hST
  obtain ⟨g1, g2⟩ := hwf.ok (a := a) (by omega) (by omega)
  have he := wso_at ca ρ g1 g2
  rw [cel_arr (t := 3) qk] at he
  have kw := kk ρ H locs cells slots ls hρ hn0 hST hLR (VS.long hV.tl.tl) e1 e2
  rw [List.map_cons, List.map_cons, tr_ref (a := a) (by omega)]
  exact va_lald hx hb hGT.1 hP (a - 2) 3 he (tys_at ca (t := 3) (by omega)) hi hd kw
theorem sp_daload_T (C : CX p l s m args meth c A D ca y b L xs) {a : Nat} {i : Int32} {r : List Value} (qk : hK h a = 24) (hi : vp_in i (hL h a)) (hd : decode (mCode y) pc = .ok (.daload, 1)) (kk : WS p l e R s m args below meth c A D ca y b L xs B1 B2 Q ρ0 n0 (pc + 1) lo (.double (hAD h a i.toNatClampNeg) :: r) h) : WS p l e R s m args below meth c A D ca y b L xs B1 B2 Q ρ0 n0 pc lo (.int i :: .ref a :: r) h := by
  obtain ⟨hx, hb, hml, hown, hts, hlk, hrt, hex, hin, hGT, hGH, hA, hl⟩ := id C
  intro ρ H locs cells slots ls hρ hn0 hST hLR hV e1 e2
  obtain ⟨hP, hD, hS, hwf, hr1, hr2, hr3⟩ := id hST
  obtain ⟨g1, g2⟩ := hwf.ok (a := a) (by omega) (by omega)
  have he := wso_at ca ρ g1 g2
  rw [cel_arr (t := 4) qk] at he
  have kw := kk ρ H locs cells slots ls hρ hn0 hST hLR (VS.double hV.tl.tl) e1 e2
  rw [List.map_cons, List.map_cons, tr_ref (a := a) (by omega)]
  exact va_dald hx hb hGT.1 hP (a - 2) 4 he (tys_at ca (t := 4) (by omega)) hi hd kw
theorem sp_iaload (C : CX p l s m args meth c A D ca y b L xs) (hd : decode (mCode y) pc = .ok (.iaload, len)) (hs : stpR y .iaload len pc lo st h = some (.inl (pc', lo', st', h'))) (kk : WS p l e R s m args below meth c A D ca y b L xs B1 B2 Q ρ0 n0 pc' lo' st' h') : WS p l e R s m args below meth c A D ca y b L xs B1 B2 Q ρ0 n0 pc lo st h := by
  simp only [stpR] at hs
  replace hs := gL_some hs
  obtain ⟨q, hs⟩ := hs
  obtain rfl := eq_of_beq q
  split at hs
  · replace hs := gL_some hs
    obtain ⟨q2, hs⟩ := hs
    obtain ⟨rfl, rfl, rfl, rfl⟩ := go_some hs
    rw [Bool.and_eq_true, Bool.or_eq_true] at q2
    rcases q2.1 with qk | qk
    · exact sp_ald_int C (eq_of_beq qk) (inA_ok q2.2) hd kk
    · exact sp_ald_scr C (eq_of_beq qk) (inA_ok q2.2) hd kk
  · cases hs
theorem sp_baload (C : CX p l s m args meth c A D ca y b L xs) (hd : decode (mCode y) pc = .ok (.baload, len)) (hs : stpR y .baload len pc lo st h = some (.inl (pc', lo', st', h'))) (kk : WS p l e R s m args below meth c A D ca y b L xs B1 B2 Q ρ0 n0 pc' lo' st' h') : WS p l e R s m args below meth c A D ca y b L xs B1 B2 Q ρ0 n0 pc lo st h := by
  simp only [stpR] at hs
  replace hs := gL_some hs
  obtain ⟨q, hs⟩ := hs
  obtain rfl := eq_of_beq q
  split at hs
  · replace hs := gL_some hs
    obtain ⟨q2, hs⟩ := hs
    obtain ⟨rfl, rfl, rfl, rfl⟩ := go_some hs
    simp only [Bool.and_eq_true, beq_iff_eq] at q2
    exact sp_baload_T C q2.1 (inA_ok q2.2) hd kk
  · cases hs
theorem sp_faload (C : CX p l s m args meth c A D ca y b L xs) (hd : decode (mCode y) pc = .ok (.faload, len)) (hs : stpR y .faload len pc lo st h = some (.inl (pc', lo', st', h'))) (kk : WS p l e R s m args below meth c A D ca y b L xs B1 B2 Q ρ0 n0 pc' lo' st' h') : WS p l e R s m args below meth c A D ca y b L xs B1 B2 Q ρ0 n0 pc lo st h := by
  simp only [stpR] at hs
  replace hs := gL_some hs
  obtain ⟨q, hs⟩ := hs
  obtain rfl := eq_of_beq q
  split at hs
  · replace hs := gL_some hs
    obtain ⟨q2, hs⟩ := hs
    obtain ⟨rfl, rfl, rfl, rfl⟩ := go_some hs
    simp only [Bool.and_eq_true, beq_iff_eq] at q2
    exact sp_faload_T C q2.1 (inA_ok q2.2) hd kk
  · cases hs
theorem sp_laload (C : CX p l s m args meth c A D ca y b L xs) (hd : decode (mCode y) pc = .ok (.laload, len)) (hs : stpR y .laload len pc lo st h = some (.inl (pc', lo', st', h'))) (kk : WS p l e R s m args below meth c A D ca y b L xs B1 B2 Q ρ0 n0 pc' lo' st' h') : WS p l e R s m args below meth c A D ca y b L xs B1 B2 Q ρ0 n0 pc lo st h := by
  simp only [stpR] at hs
  replace hs := gL_some hs
  obtain ⟨q, hs⟩ := hs
  obtain rfl := eq_of_beq q
  split at hs
  · replace hs := gL_some hs
    obtain ⟨q2, hs⟩ := hs
    obtain ⟨rfl, rfl, rfl, rfl⟩ := go_some hs
    simp only [Bool.and_eq_true, beq_iff_eq] at q2
    exact sp_laload_T C q2.1 (inA_ok q2.2) hd kk
  · cases hs
theorem sp_daload (C : CX p l s m args meth c A D ca y b L xs) (hd : decode (mCode y) pc = .ok (.daload, len)) (hs : stpR y .daload len pc lo st h = some (.inl (pc', lo', st', h'))) (kk : WS p l e R s m args below meth c A D ca y b L xs B1 B2 Q ρ0 n0 pc' lo' st' h') : WS p l e R s m args below meth c A D ca y b L xs B1 B2 Q ρ0 n0 pc lo st h := by
  simp only [stpR] at hs
  replace hs := gL_some hs
  obtain ⟨q, hs⟩ := hs
  obtain rfl := eq_of_beq q
  split at hs
  · replace hs := gL_some hs
    obtain ⟨q2, hs⟩ := hs
    obtain ⟨rfl, rfl, rfl, rfl⟩ := go_some hs
    simp only [Bool.and_eq_true, beq_iff_eq] at q2
    exact sp_daload_T C q2.1 (inA_ok q2.2) hd kk
  · cases hs
theorem sp_iastore_T (C : CX p l s m args meth c A D ca y b L xs) {a : Nat} {i : Int32} {x : Int32} {r : List Value} (qk : hK h a = 20) (hi : vp_in i (hL h a)) (hd : decode (mCode y) pc = .ok (.iastore, 1)) (kk : WS p l e R s m args below meth c A D ca y b L xs B1 B2 Q ρ0 n0 (pc + 1) lo r (sAI h a i.toNatClampNeg x)) : WS p l e R s m args below meth c A D ca y b L xs B1 B2 Q ρ0 n0 pc lo (.int x :: .int i :: .ref a :: r) h := by
  obtain ⟨hx, hb, hml, hown, hts, hlk, hrt, hex, hin, hGT, hGH, hA, hl⟩ := id C
  intro ρ H locs cells slots ls hρ hn0 hST hLR hV e1 e2
  obtain ⟨hP, hD, hS, hwf, hr1, hr2, hr3⟩ := id hST
  obtain ⟨g1, g2⟩ := hwf.ok (a := a) (by omega) (by omega)
  have he := wso_at ca ρ g1 g2
  rw [cel_arr (t := 0) qk] at he
  rw [List.map_cons, List.map_cons, List.map_cons, tr_ref (a := a) (by omega)]
  refine va_iast hx hb hGT.1 hP hD hS (a - 2) 0 he (tys_at ca (t := 0) (by omega)) hi hd (fun H1 locs1 hP1 hD1 hS1 => ?_)
  refine kk ρ H1 locs1 cells slots ls hρ hn0 (ST.arr hST (t := 0) qk (by omega) rfl rfl rfl (fun c hc => ?_) (fun i => by rw [hAI_sAI, if_neg (fun q => by omega)]) rfl (fun a' i' => hwf.2.2.2.2.2 _ _) ?_ hP1 hD1 hS1) hLR hV.tl.tl.tl e1 e2
  · exact cel_agree ca rfl rfl (fun f => rfl) (fun f => rfl) (fun f => rfl) (fun j => by rw [hAI_sAI, if_neg (fun q => hc q.1)]) (fun i => rfl) (fun i => rfl) (fun i => rfl) (fun i => rfl)
  · show acel ca ρ _ a 0 = _
    unfold acel
    simp only [hL_sAI]
    congr 4
    funext j
    rw [hAI_sAI]
    simp [upd, vf_upd, vp_updL]
theorem sp_iastore (C : CX p l s m args meth c A D ca y b L xs) (hd : decode (mCode y) pc = .ok (.iastore, len)) (hs : stpR y .iastore len pc lo st h = some (.inl (pc', lo', st', h'))) (kk : WS p l e R s m args below meth c A D ca y b L xs B1 B2 Q ρ0 n0 pc' lo' st' h') : WS p l e R s m args below meth c A D ca y b L xs B1 B2 Q ρ0 n0 pc lo st h := by
  simp only [stpR] at hs
  replace hs := gL_some hs
  obtain ⟨q, hs⟩ := hs
  obtain rfl := eq_of_beq q
  split at hs
  · replace hs := gL_some hs
    obtain ⟨q2, hs⟩ := hs
    obtain ⟨rfl, rfl, rfl, rfl⟩ := go_some hs
    simp only [Bool.and_eq_true, beq_iff_eq] at q2
    exact sp_iastore_T C q2.1 (inA_ok q2.2) hd kk
  · cases hs
theorem sp_bastore_T (C : CX p l s m args meth c A D ca y b L xs) {a : Nat} {i : Int32} {x : Int32} {r : List Value} (qk : hK h a = 21) (hi : vp_in i (hL h a)) (hz : isZ x = true) (hd : decode (mCode y) pc = .ok (.bastore, 1)) (kk : WS p l e R s m args below meth c A D ca y b L xs B1 B2 Q ρ0 n0 (pc + 1) lo r (sAI h a i.toNatClampNeg x)) : WS p l e R s m args below meth c A D ca y b L xs B1 B2 Q ρ0 n0 pc lo (.int x :: .int i :: .ref a :: r) h := by
  obtain ⟨hx, hb, hml, hown, hts, hlk, hrt, hex, hin, hGT, hGH, hA, hl⟩ := id C
  intro ρ H locs cells slots ls hρ hn0 hST hLR hV e1 e2
  obtain ⟨hP, hD, hS, hwf, hr1, hr2, hr3⟩ := id hST
  obtain ⟨g1, g2⟩ := hwf.ok (a := a) (by omega) (by omega)
  have he := wso_at ca ρ g1 g2
  rw [cel_arr (t := 1) qk] at he
  rw [List.map_cons, List.map_cons, List.map_cons, tr_ref (a := a) (by omega)]
  refine va_zast hx hb hGT.1 hP hD hS (a - 2) 1 he (tys_at ca (t := 1) (by omega)) hi hd (fun H1 locs1 hP1 hD1 hS1 => ?_)
  rw [(isZ_nar hz).1] at hP1 hD1
  refine kk ρ H1 locs1 cells slots ls hρ hn0 (ST.arr hST (t := 1) qk (by omega) rfl rfl rfl (fun c hc => ?_) (fun i => by rw [hAI_sAI, if_neg (fun q => by omega)]) rfl (fun a' i' => hwf.2.2.2.2.2 _ _) ?_ hP1 hD1 hS1) hLR hV.tl.tl.tl e1 e2
  · exact cel_agree ca rfl rfl (fun f => rfl) (fun f => rfl) (fun f => rfl) (fun j => by rw [hAI_sAI, if_neg (fun q => hc q.1)]) (fun i => rfl) (fun i => rfl) (fun i => rfl) (fun i => rfl)
  · show acel ca ρ _ a 1 = _
    unfold acel
    simp only [hL_sAI]
    congr 4
    funext j
    rw [hAI_sAI]
    simp [upd, vf_upd, vp_updL]
theorem sp_bastore (C : CX p l s m args meth c A D ca y b L xs) (hd : decode (mCode y) pc = .ok (.bastore, len)) (hs : stpR y .bastore len pc lo st h = some (.inl (pc', lo', st', h'))) (kk : WS p l e R s m args below meth c A D ca y b L xs B1 B2 Q ρ0 n0 pc' lo' st' h') : WS p l e R s m args below meth c A D ca y b L xs B1 B2 Q ρ0 n0 pc lo st h := by
  simp only [stpR] at hs
  replace hs := gL_some hs
  obtain ⟨q, hs⟩ := hs
  obtain rfl := eq_of_beq q
  split at hs
  · replace hs := gL_some hs
    obtain ⟨q2, hs⟩ := hs
    obtain ⟨rfl, rfl, rfl, rfl⟩ := go_some hs
    simp only [Bool.and_eq_true, beq_iff_eq] at q2
    exact sp_bastore_T C q2.1.1 (inA_ok q2.1.2) q2.2 hd kk
  · cases hs
theorem sp_fastore_T (C : CX p l s m args meth c A D ca y b L xs) {a : Nat} {i : Int32} {x : UInt32} {r : List Value} (qk : hK h a = 22) (hi : vp_in i (hL h a)) (hd : decode (mCode y) pc = .ok (.fastore, 1)) (kk : WS p l e R s m args below meth c A D ca y b L xs B1 B2 Q ρ0 n0 (pc + 1) lo r (sAF h a i.toNatClampNeg x)) : WS p l e R s m args below meth c A D ca y b L xs B1 B2 Q ρ0 n0 pc lo (.float x :: .int i :: .ref a :: r) h := by
  obtain ⟨hx, hb, hml, hown, hts, hlk, hrt, hex, hin, hGT, hGH, hA, hl⟩ := id C
  intro ρ H locs cells slots ls hρ hn0 hST hLR hV e1 e2
  obtain ⟨hP, hD, hS, hwf, hr1, hr2, hr3⟩ := id hST
  obtain ⟨g1, g2⟩ := hwf.ok (a := a) (by omega) (by omega)
  have he := wso_at ca ρ g1 g2
  rw [cel_arr (t := 2) qk] at he
  rw [List.map_cons, List.map_cons, List.map_cons, tr_ref (a := a) (by omega)]
  refine va_fast hx hb hGT.1 hP hD hS (a - 2) 2 he (tys_at ca (t := 2) (by omega)) hi hd (fun H1 locs1 hP1 hD1 hS1 => ?_)
  refine kk ρ H1 locs1 cells slots ls hρ hn0 (ST.arr hST (t := 2) qk (by omega) rfl rfl rfl (fun c hc => ?_) (fun i => rfl) rfl (fun a' i' => hwf.2.2.2.2.2 _ _) ?_ hP1 hD1 hS1) hLR hV.tl.tl.tl e1 e2
  · exact cel_agree ca rfl rfl (fun f => rfl) (fun f => rfl) (fun f => rfl) (fun i => rfl) (fun j => by rw [hAF_sAF, if_neg (fun q => hc q.1)]) (fun i => rfl) (fun i => rfl) (fun i => rfl)
  · show acel ca ρ _ a 2 = _
    unfold acel
    simp only [hL_sAF]
    congr 6
    funext j
    rw [hAF_sAF]
    simp [upd, vf_upd, vp_updL]
theorem sp_fastore (C : CX p l s m args meth c A D ca y b L xs) (hd : decode (mCode y) pc = .ok (.fastore, len)) (hs : stpR y .fastore len pc lo st h = some (.inl (pc', lo', st', h'))) (kk : WS p l e R s m args below meth c A D ca y b L xs B1 B2 Q ρ0 n0 pc' lo' st' h') : WS p l e R s m args below meth c A D ca y b L xs B1 B2 Q ρ0 n0 pc lo st h := by
  simp only [stpR] at hs
  replace hs := gL_some hs
  obtain ⟨q, hs⟩ := hs
  obtain rfl := eq_of_beq q
  split at hs
  · replace hs := gL_some hs
    obtain ⟨q2, hs⟩ := hs
    obtain ⟨rfl, rfl, rfl, rfl⟩ := go_some hs
    simp only [Bool.and_eq_true, beq_iff_eq] at q2
    exact sp_fastore_T C q2.1 (inA_ok q2.2) hd kk
  · cases hs
theorem sp_lastore_T (C : CX p l s m args meth c A D ca y b L xs) {a : Nat} {i : Int32} {x : Int64} {r : List Value} (qk : hK h a = 23) (hi : vp_in i (hL h a)) (hd : decode (mCode y) pc = .ok (.lastore, 1)) (kk : WS p l e R s m args below meth c A D ca y b L xs B1 B2 Q ρ0 n0 (pc + 1) lo r (sAL h a i.toNatClampNeg x)) : WS p l e R s m args below meth c A D ca y b L xs B1 B2 Q ρ0 n0 pc lo (.long x :: .int i :: .ref a :: r) h := by
  obtain ⟨hx, hb, hml, hown, hts, hlk, hrt, hex, hin, hGT, hGH, hA, hl⟩ := id C
  intro ρ H locs cells slots ls hρ hn0 hST hLR hV e1 e2
  obtain ⟨hP, hD, hS, hwf, hr1, hr2, hr3⟩ := id hST
  obtain ⟨g1, g2⟩ := hwf.ok (a := a) (by omega) (by omega)
  have he := wso_at ca ρ g1 g2
  rw [cel_arr (t := 3) qk] at he
  rw [List.map_cons, List.map_cons, List.map_cons, tr_ref (a := a) (by omega)]
  refine va_last hx hb hGT.1 hP hD hS (a - 2) 3 he (tys_at ca (t := 3) (by omega)) hi hd (fun H1 locs1 hP1 hD1 hS1 => ?_)
  refine kk ρ H1 locs1 cells slots ls hρ hn0 (ST.arr hST (t := 3) qk (by omega) rfl rfl rfl (fun c hc => ?_) (fun i => rfl) rfl (fun a' i' => hwf.2.2.2.2.2 _ _) ?_ hP1 hD1 hS1) hLR hV.tl.tl.tl e1 e2
  · exact cel_agree ca rfl rfl (fun f => rfl) (fun f => rfl) (fun f => rfl) (fun i => rfl) (fun i => rfl) (fun j => by rw [hAL_sAL, if_neg (fun q => hc q.1)]) (fun i => rfl) (fun i => rfl)
  · show acel ca ρ _ a 3 = _
    unfold acel
    simp only [hL_sAL]
    congr 5
    funext j
    rw [hAL_sAL]
    simp [upd, vf_upd, vp_updL]
theorem sp_lastore (C : CX p l s m args meth c A D ca y b L xs) (hd : decode (mCode y) pc = .ok (.lastore, len)) (hs : stpR y .lastore len pc lo st h = some (.inl (pc', lo', st', h'))) (kk : WS p l e R s m args below meth c A D ca y b L xs B1 B2 Q ρ0 n0 pc' lo' st' h') : WS p l e R s m args below meth c A D ca y b L xs B1 B2 Q ρ0 n0 pc lo st h := by
  simp only [stpR] at hs
  replace hs := gL_some hs
  obtain ⟨q, hs⟩ := hs
  obtain rfl := eq_of_beq q
  split at hs
  · replace hs := gL_some hs
    obtain ⟨q2, hs⟩ := hs
    obtain ⟨rfl, rfl, rfl, rfl⟩ := go_some hs
    simp only [Bool.and_eq_true, beq_iff_eq] at q2
    exact sp_lastore_T C q2.1 (inA_ok q2.2) hd kk
  · cases hs
theorem sp_dastore_T (C : CX p l s m args meth c A D ca y b L xs) {a : Nat} {i : Int32} {x : UInt64} {r : List Value} (qk : hK h a = 24) (hi : vp_in i (hL h a)) (hd : decode (mCode y) pc = .ok (.dastore, 1)) (kk : WS p l e R s m args below meth c A D ca y b L xs B1 B2 Q ρ0 n0 (pc + 1) lo r (sAD h a i.toNatClampNeg x)) : WS p l e R s m args below meth c A D ca y b L xs B1 B2 Q ρ0 n0 pc lo (.double x :: .int i :: .ref a :: r) h := by
  obtain ⟨hx, hb, hml, hown, hts, hlk, hrt, hex, hin, hGT, hGH, hA, hl⟩ := id C
  intro ρ H locs cells slots ls hρ hn0 hST hLR hV e1 e2
  obtain ⟨hP, hD, hS, hwf, hr1, hr2, hr3⟩ := id hST
  obtain ⟨g1, g2⟩ := hwf.ok (a := a) (by omega) (by omega)
  have he := wso_at ca ρ g1 g2
  rw [cel_arr (t := 4) qk] at he
  rw [List.map_cons, List.map_cons, List.map_cons, tr_ref (a := a) (by omega)]
  refine va_dast hx hb hGT.1 hP hD hS (a - 2) 4 he (tys_at ca (t := 4) (by omega)) hi hd (fun H1 locs1 hP1 hD1 hS1 => ?_)
  refine kk ρ H1 locs1 cells slots ls hρ hn0 (ST.arr hST (t := 4) qk (by omega) rfl rfl rfl (fun c hc => ?_) (fun i => rfl) rfl (fun a' i' => hwf.2.2.2.2.2 _ _) ?_ hP1 hD1 hS1) hLR hV.tl.tl.tl e1 e2
  · exact cel_agree ca rfl rfl (fun f => rfl) (fun f => rfl) (fun f => rfl) (fun i => rfl) (fun i => rfl) (fun i => rfl) (fun j => by rw [hAD_sAD, if_neg (fun q => hc q.1)]) (fun i => rfl)
  · show acel ca ρ _ a 4 = _
    unfold acel
    simp only [hL_sAD]
    congr 7
    funext j
    rw [hAD_sAD]
    simp [upd, vf_upd, vp_updL]
theorem sp_dastore (C : CX p l s m args meth c A D ca y b L xs) (hd : decode (mCode y) pc = .ok (.dastore, len)) (hs : stpR y .dastore len pc lo st h = some (.inl (pc', lo', st', h'))) (kk : WS p l e R s m args below meth c A D ca y b L xs B1 B2 Q ρ0 n0 pc' lo' st' h') : WS p l e R s m args below meth c A D ca y b L xs B1 B2 Q ρ0 n0 pc lo st h := by
  simp only [stpR] at hs
  replace hs := gL_some hs
  obtain ⟨q, hs⟩ := hs
  obtain rfl := eq_of_beq q
  split at hs
  · replace hs := gL_some hs
    obtain ⟨q2, hs⟩ := hs
    obtain ⟨rfl, rfl, rfl, rfl⟩ := go_some hs
    simp only [Bool.and_eq_true, beq_iff_eq] at q2
    exact sp_dastore_T C q2.1 (inA_ok q2.2) hd kk
  · cases hs
theorem sp_aaload_T (C : CX p l s m args meth c A D ca y b L xs) {a : Nat} {i : Int32} {r : List Value} (qk : 25 ≤ hK h a) (qk2 : hK h a ≤ 29) (hi : vp_in i (hL h a)) (hd : decode (mCode y) pc = .ok (.aaload, 1)) (kk : WS p l e R s m args below meth c A D ca y b L xs B1 B2 Q ρ0 n0 (pc + 1) lo (.ref (hAR h a i.toNatClampNeg) :: r) h) : WS p l e R s m args below meth c A D ca y b L xs B1 B2 Q ρ0 n0 pc lo (.int i :: .ref a :: r) h := by
  obtain ⟨hx, hb, hml, hown, hts, hlk, hrt, hex, hin, hGT, hGH, hA, hl⟩ := id C
  intro ρ H locs cells slots ls hρ hn0 hST hLR hV e1 e2
  obtain ⟨hP, hD, hS, hwf, hr1, hr2, hr3⟩ := id hST
  obtain ⟨g1, g2⟩ := hwf.ok (a := a) (by omega) (by omega)
  obtain ⟨t, ht⟩ : ∃ t, hK h a = 20 + (t + 5) := ⟨hK h a - 25, by omega⟩
  have he := wso_at ca ρ g1 g2
  rw [cel_arr ht] at he
  have kw := kk ρ H locs cells slots ls hρ hn0 hST hLR (VS.cons (show hAR h a i.toNatClampNeg < hN h from hwf.2.2.2.2.2 _ _) hV.tl.tl) e1 e2
  rw [List.map_cons, List.map_cons, tr_ref (a := a) (by omega)]
  exact va_aldq hx hb hGT.1 hP (a - 2) (t + 5) he (tys_at ca (by omega)) hi hd kw
theorem sp_aaload (C : CX p l s m args meth c A D ca y b L xs) (hd : decode (mCode y) pc = .ok (.aaload, len)) (hs : stpR y .aaload len pc lo st h = some (.inl (pc', lo', st', h'))) (kk : WS p l e R s m args below meth c A D ca y b L xs B1 B2 Q ρ0 n0 pc' lo' st' h') : WS p l e R s m args below meth c A D ca y b L xs B1 B2 Q ρ0 n0 pc lo st h := by
  simp only [stpR] at hs
  replace hs := gL_some hs
  obtain ⟨q, hs⟩ := hs
  obtain rfl := eq_of_beq q
  split at hs
  · replace hs := gL_some hs
    obtain ⟨q2, hs⟩ := hs
    obtain ⟨rfl, rfl, rfl, rfl⟩ := go_some hs
    simp only [Bool.and_eq_true, decide_eq_true_eq] at q2
    exact sp_aaload_T C q2.1.1 q2.1.2 (inA_ok q2.2) hd kk
  · cases hs
theorem sp_aastore_T (C : CX p l s m args meth c A D ca y b L xs) {a v : Nat} {i : Int32} {r : List Value} (qk : 25 ≤ hK h a) (qk2 : hK h a ≤ 29) (hi : vp_in i (hL h a)) (hv1 : 1 < v) (hv2 : hK h v = acl (hK h a - 25)) (hd : decode (mCode y) pc = .ok (.aastore, 1)) (kk : WS p l e R s m args below meth c A D ca y b L xs B1 B2 Q ρ0 n0 (pc + 1) lo r (sAR h a i.toNatClampNeg v)) : WS p l e R s m args below meth c A D ca y b L xs B1 B2 Q ρ0 n0 pc lo (.ref v :: .int i :: .ref a :: r) h := by
  obtain ⟨hx, hb, hml, hown, hts, hlk, hrt, hex, hin, hGT, hGH, hA, hl⟩ := id C
  intro ρ H locs cells slots ls hρ hn0 hST hLR hV e1 e2
  obtain ⟨hP, hD, hS, hwf, hr1, hr2, hr3⟩ := id hST
  obtain ⟨g1, g2⟩ := hwf.ok (a := a) (by omega) (by omega)
  obtain ⟨t, ht⟩ : ∃ t, hK h a = 20 + (t + 5) := ⟨hK h a - 25, by omega⟩
  have ht5 : t < 5 := by omega
  have e25 : hK h a - 25 = t := by omega
  rw [e25] at hv2
  have hac : acl t < 13 := by
    match t, ht5 with
    | 0, _ => decide
    | 1, _ => decide
    | 2, _ => decide
    | 3, _ => decide
    | 4, _ => decide
  have hvn : v < hN h := hV.hd
  have he := wso_at ca ρ g1 g2
  rw [cel_arr ht] at he
  have hev := wso_at ca ρ (show 2 ≤ v by omega) hvn
  rw [cel_obj hv2 hac] at hev
  rw [List.map_cons, List.map_cons, List.map_cons, tr_ref (a := a) (by omega), tr_ref (a := v) (by omega)]
  refine va_astq hx hb hGT.1 hP hD hS (a - 2) (t + 5) (v - 2) (acl t) he (r := (clN (acl t), clT (acl t), nfld (acl t))) (tys_at ca (by omega)) hev (cl_at (acl t) hac) hi hd (fun H1 locs1 hP1 hD1 hS1 => ?_)
  refine kk ρ H1 locs1 cells slots ls hρ hn0 (ST.arr hST ht (by omega) rfl rfl rfl (fun c hc => ?_) (fun i => rfl) rfl (fun a' i' => ?_) ?_ hP1 hD1 hS1) hLR hV.tl.tl.tl e1 e2
  · exact cel_agree ca rfl rfl (fun f => rfl) (fun f => rfl) (fun f => rfl) (fun i => rfl) (fun i => rfl) (fun i => rfl) (fun i => rfl) (fun j => by rw [hAR_sAR, if_neg (fun q => hc q.1)])
  · rw [hAR_sAR]
    split
    · exact hvn
    · exact hwf.2.2.2.2.2 _ _
  · show acel ca ρ _ a (t + 5) = _
    unfold acel
    simp only [hL_sAR]
    congr 7
    funext j
    rw [hAR_sAR]
    unfold va_up
    by_cases hj : j = i.toNatClampNeg
    · subst hj
      rw [if_pos ⟨rfl, rfl⟩, if_pos rfl]
      unfold rfo
      rw [if_neg (by omega)]
    · rw [if_neg (fun q => hj q.2), if_neg hj]
theorem sp_aastore_N (C : CX p l s m args meth c A D ca y b L xs) {a : Nat} {i : Int32} {r : List Value} (qk : 25 ≤ hK h a) (qk2 : hK h a ≤ 29) (hi : vp_in i (hL h a)) (hd : decode (mCode y) pc = .ok (.aastore, 1)) (kk : WS p l e R s m args below meth c A D ca y b L xs B1 B2 Q ρ0 n0 (pc + 1) lo r (sAR h a i.toNatClampNeg 0)) : WS p l e R s m args below meth c A D ca y b L xs B1 B2 Q ρ0 n0 pc lo (.ref 0 :: .int i :: .ref a :: r) h := by
  obtain ⟨hx, hb, hml, hown, hts, hlk, hrt, hex, hin, hGT, hGH, hA, hl⟩ := id C
  intro ρ H locs cells slots ls hρ hn0 hST hLR hV e1 e2
  obtain ⟨hP, hD, hS, hwf, hr1, hr2, hr3⟩ := id hST
  obtain ⟨g1, g2⟩ := hwf.ok (a := a) (by omega) (by omega)
  obtain ⟨t, ht⟩ : ∃ t, hK h a = 20 + (t + 5) := ⟨hK h a - 25, by omega⟩
  have he := wso_at ca ρ g1 g2
  rw [cel_arr ht] at he
  rw [List.map_cons, List.map_cons, List.map_cons, tr_ref (a := a) (by omega), tr_null]
  refine va_astqN hx hb hGT.1 hP hD hS (a - 2) (t + 5) he (tys_at ca (by omega)) hi hd (fun H1 locs1 hP1 hD1 hS1 => ?_)
  refine kk ρ H1 locs1 cells slots ls hρ hn0 (ST.arr hST ht (by omega) rfl rfl rfl (fun c hc => ?_) (fun i => rfl) rfl (fun a' i' => ?_) ?_ hP1 hD1 hS1) hLR hV.tl.tl.tl e1 e2
  · exact cel_agree ca rfl rfl (fun f => rfl) (fun f => rfl) (fun f => rfl) (fun i => rfl) (fun i => rfl) (fun i => rfl) (fun i => rfl) (fun j => by rw [hAR_sAR, if_neg (fun q => hc q.1)])
  · rw [hAR_sAR]
    split
    · omega
    · exact hwf.2.2.2.2.2 _ _
  · show acel ca ρ _ a (t + 5) = _
    unfold acel
    simp only [hL_sAR]
    congr 7
    funext j
    rw [hAR_sAR]
    unfold va_up
    by_cases hj : j = i.toNatClampNeg
    · subst hj
      rw [if_pos ⟨rfl, rfl⟩, if_pos rfl]
      unfold rfo
      rw [if_pos rfl]
    · rw [if_neg (fun q => hj q.2), if_neg hj]
theorem sp_aastore (C : CX p l s m args meth c A D ca y b L xs) (hd : decode (mCode y) pc = .ok (.aastore, len)) (hs : stpR y .aastore len pc lo st h = some (.inl (pc', lo', st', h'))) (kk : WS p l e R s m args below meth c A D ca y b L xs B1 B2 Q ρ0 n0 pc' lo' st' h') : WS p l e R s m args below meth c A D ca y b L xs B1 B2 Q ρ0 n0 pc lo st h := by
  simp only [stpR] at hs
  replace hs := gL_some hs
  obtain ⟨q, hs⟩ := hs
  obtain rfl := eq_of_beq q
  split at hs
  · replace hs := gL_some hs
    obtain ⟨q2, hs⟩ := hs
    obtain ⟨rfl, rfl, rfl, rfl⟩ := go_some hs
    simp only [Bool.and_eq_true, Bool.or_eq_true, decide_eq_true_eq, beq_iff_eq] at q2
    rcases q2.2 with q3 | q3
    · subst q3
      exact sp_aastore_N C q2.1.1.1 q2.1.1.2 (inA_ok q2.1.2) hd kk
    · exact sp_aastore_T C q2.1.1.1 q2.1.1.2 (inA_ok q2.1.2) q3.1 q3.2 hd kk
  · cases hs
theorem sp_alen_T (C : CX p l s m args meth c A D ca y b L xs) {a : Nat} {r : List Value} (qk : 19 ≤ hK h a) (qk2 : hK h a ≤ 29) (hd : decode (mCode y) pc = .ok (.arraylength, 1)) (kk : WS p l e R s m args below meth c A D ca y b L xs B1 B2 Q ρ0 n0 (pc + 1) lo (.int (Int32.ofNat (hL h a)) :: r) h) : WS p l e R s m args below meth c A D ca y b L xs B1 B2 Q ρ0 n0 pc lo (.ref a :: r) h := by
  obtain ⟨hx, hb, hml, hown, hts, hlk, hrt, hex, hin, hGT, hGH, hA, hl⟩ := id C
  intro ρ H locs cells slots ls hρ hn0 hST hLR hV e1 e2
  obtain ⟨hP, hD, hS, hwf, hr1, hr2, hr3⟩ := id hST
  have kw := kk ρ H locs cells slots ls hρ hn0 hST hLR (VS.int hV.tl) e1 e2
  have kw : W p l e R s m args below meth c H locs cells slots Q (F0 m (pc + 1) ls (.int (Int32.ofNat (hL h a)) :: r.map (tr ρ))) := kw
  by_cases h19 : hK h a = 19
  · have ha1 : a = 1 := by
      obtain ⟨w1, w2, w3, w4, w5, w6⟩ := hwf
      exact (w3 a).mp h19
    subst ha1
    rw [List.map_cons, tr_ref (a := 1) (by omega), hr1]
    obtain ⟨k1, k2, k3, -⟩ := hGH
    rw [hr2] at kw
    exact va_slen hx hb k1 k2 k3 hS hd kw
  · obtain ⟨g1, g2⟩ := hwf.ok (a := a) (by omega) h19
    obtain ⟨t, ht⟩ : ∃ t, hK h a = 20 + t := ⟨hK h a - 20, by omega⟩
    have he := wso_at ca ρ g1 g2
    rw [cel_arr ht] at he
    rw [List.map_cons, tr_ref (a := a) (by omega)]
    match t, ht, he with
    | 0, ht, he => exact va_alen hx hb hGT.1 hP (a - 2) 0 he (tys_at ca (t := 0) (by omega)) rfl hd kw
    | 1, ht, he => exact va_alen hx hb hGT.1 hP (a - 2) 1 he (tys_at ca (t := 1) (by omega)) rfl hd kw
    | 2, ht, he => exact va_alen hx hb hGT.1 hP (a - 2) 2 he (tys_at ca (t := 2) (by omega)) rfl hd kw
    | 3, ht, he => exact va_alen hx hb hGT.1 hP (a - 2) 3 he (tys_at ca (t := 3) (by omega)) rfl hd kw
    | 4, ht, he => exact va_alen hx hb hGT.1 hP (a - 2) 4 he (tys_at ca (t := 4) (by omega)) rfl hd kw
    | t + 5, ht, he => exact va_alen hx hb hGT.1 hP (a - 2) (t + 5) he (tys_at ca (t := t + 5) (by omega)) rfl hd kw
theorem sp_alen (C : CX p l s m args meth c A D ca y b L xs) (hd : decode (mCode y) pc = .ok (.arraylength, len)) (hs : stpR y .arraylength len pc lo st h = some (.inl (pc', lo', st', h'))) (kk : WS p l e R s m args below meth c A D ca y b L xs B1 B2 Q ρ0 n0 pc' lo' st' h') : WS p l e R s m args below meth c A D ca y b L xs B1 B2 Q ρ0 n0 pc lo st h := by
  simp only [stpR] at hs
  replace hs := gL_some hs
  obtain ⟨q, hs⟩ := hs
  obtain rfl := eq_of_beq q
  split at hs
  · replace hs := gL_some hs
    obtain ⟨q2, hs⟩ := hs
    obtain ⟨rfl, rfl, rfl, rfl⟩ := go_some hs
    simp only [Bool.and_eq_true, decide_eq_true_eq] at q2
    exact sp_alen_T C q2.1 q2.2 hd kk
  · cases hs
end SND4
