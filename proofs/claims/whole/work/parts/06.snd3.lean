/-! ===== instructions on the heap ===== -/
theorem isZ_fit {x : Int32} {ρ : Nat → Nat} (q : isZ x = true) : fits .boolean (tr ρ (.int x)) = true := by
  unfold isZ at q
  simp only [Bool.or_eq_true, decide_eq_true_eq] at q
  rcases q with rfl | rfl <;> rfl
theorem fsv_spec {ρ : Nat → Nat} {h h1 : HP} {ci k a : Nat} {v : Value} {ty : FieldType} (hf : fok ty (ftyp ci k) = true) (hs : fsv h ci k a v = some h1) :
    hN h1 = hN h ∧ hK h1 = hK h ∧ hL h1 = hL h ∧ hC h1 = hC h ∧ hZ h1 = hZ h ∧ hAI h1 = hAI h ∧ hAF h1 = hAF h ∧ hAR h1 = hAR h ∧ hAL h1 = hAL h ∧ hAD h1 = hAD h ∧ (∀ f b, b ≠ a → hI h1 f b = hI h f b ∧ hF h1 f b = hF h f b ∧ hR h1 f b = hR h f b) ∧ (∀ j, j ≠ k → fvt ρ h1 ci a j = fvt ρ h ci a j) ∧ fvt ρ h1 ci a k = tr ρ v ∧ narrow ty (tr ρ v) = tr ρ v ∧ fits ty (tr ρ v) = true ∧ (∀ f b, hR h1 f b = hR h f b ∨ v = .ref (hR h1 f b)) := by
  unfold fsv at hs
  split at hs
  · rename_i x e
    cases hs
    have hty : ty = .int := by
      rw [e] at hf
      simpa [fok] using hf
    subst hty
    refine ⟨rfl, rfl, rfl, rfl, rfl, rfl, rfl, rfl, rfl, rfl, fun f b hb => ⟨?_, rfl, rfl⟩, fun j hj => ?_, ?_, rfl, rfl, fun f b => Or.inl rfl⟩
    · rw [hI_sI, if_neg (fun q => hb q.2)]
    · unfold fvt
      split <;> simp only [hI_sI, hF_sI, hR_sI]
      · rw [if_neg (fun q => hj (by omega))]
      · rw [if_neg (fun q => hj (by omega))]
    · unfold fvt
      rw [e]
      simp [hI_sI, tr]
  · rename_i x e
    split at hs
    · rename_i hz
      cases hs
      have hty : ty = .boolean := by
        rw [e] at hf
        simpa [fok] using hf
      subst hty
      refine ⟨rfl, rfl, rfl, rfl, rfl, rfl, rfl, rfl, rfl, rfl, fun f b hb => ⟨?_, rfl, rfl⟩, fun j hj => ?_, ?_, (isZ_nar hz).2, isZ_fit hz, fun f b => Or.inl rfl⟩
      · rw [hI_sI, if_neg (fun q => hb q.2)]
      · unfold fvt
        split <;> simp only [hI_sI, hF_sI, hR_sI]
        · rw [if_neg (fun q => hj (by omega))]
        · rw [if_neg (fun q => hj (by omega))]
      · unfold fvt
        rw [e]
        simp [hI_sI, tr]
    · cases hs
  · rename_i x e
    cases hs
    have hty : ty = .float := by
      rw [e] at hf
      simpa [fok] using hf
    subst hty
    refine ⟨rfl, rfl, rfl, rfl, rfl, rfl, rfl, rfl, rfl, rfl, fun f b hb => ⟨rfl, ?_, rfl⟩, fun j hj => ?_, ?_, rfl, rfl, fun f b => Or.inl rfl⟩
    · rw [hF_sF, if_neg (fun q => hb q.2)]
    · unfold fvt
      split <;> simp only [hI_sF, hF_sF, hR_sF]
      rw [if_neg (fun q => hj (by omega))]
    · unfold fvt
      rw [e]
      simp [hF_sF, tr]
  · rename_i x e
    cases hs
    have hty : isRT ty = true := by
      rw [e] at hf
      simpa [fok] using hf
    refine ⟨rfl, rfl, rfl, rfl, rfl, rfl, rfl, rfl, rfl, rfl, fun f b hb => ⟨rfl, rfl, ?_⟩, fun j hj => ?_, ?_, ?_, ?_, fun f b => ?_⟩
    · rw [hR_sR, if_neg (fun q => hb q.2)]
    · unfold fvt
      split <;> simp only [hI_sR, hF_sR, hR_sR]
      rw [if_neg (fun q => hj (by omega))]
    · unfold fvt
      rw [e]
      simp [hR_sR, tr]
    · by_cases hx : x = 0
      · subst hx
        rw [tr_null]
        cases ty <;> first | rfl | (simp [isRT] at hty)
      · rw [tr_ref hx]
        cases ty <;> first | rfl | (simp [isRT] at hty)
    · by_cases hx : x = 0
      · subst hx
        rw [tr_null]
        cases ty <;> first | rfl | (simp [isRT] at hty)
      · rw [tr_ref hx]
        cases ty <;> first | rfl | (simp [isRT] at hty)
    · rw [hR_sR]
      by_cases hq : f = 100 * ci + k ∧ b = a
      · rw [if_pos hq]; exact Or.inr rfl
      · rw [if_neg hq]; exact Or.inl rfl
  · cases hs
theorem fvl_spec {ρ : Nat → Nat} {h : HP} {ci k a : Nat} {v : Value} (hs : fvl h ci k a = some v) : fvt ρ h ci a k = tr ρ v ∧ (∀ n, (∀ f b, hR h f b < n) → VW n v) := by
  unfold fvl at hs
  unfold fvt
  split at hs <;> rename_i e <;> first | (cases hs; rw [e]; exact ⟨rfl, fun n hn => trivial⟩) | (cases hs; rw [e]; exact ⟨rfl, fun n hn => hn _ _⟩) | cases hs
theorem own_cl : ∀ {ci : Nat}, ci < 13 → clN ci = ownR ci
  | 0, _ => rfl
  | 1, _ => rfl
  | 2, _ => rfl
  | 3, _ => rfl
  | 4, _ => rfl
  | 5, _ => rfl
  | 6, _ => rfl
  | 7, _ => rfl
  | 8, _ => rfl
  | 9, _ => rfl
  | 10, _ => rfl
  | 11, _ => rfl
  | 12, _ => rfl
  | n + 13, h => absurd h (by omega)
section SND3
variable {p : Program} {l : Launch} {e : Env} {R : Room} {s : State} {m : MethodId} {args : Array Value} {below : List Frame} {meth : Method} {c : Code} {A : Nat → Prop} {D : va_G} {ca : Nat → ClassId} {y : MI} {b L : Nat} {xs : Nat → Int32} {B1 B2 : Nat} {Q : State → Prop} {ρ0 : Nat → Nat} {n0 : Nat}
variable {i : Instr} {len pc pc' : Nat} {lo lo' : Lo} {st st' : List Value} {h h' : HP}
theorem cel_obj {ρ : Nat → Nat} {h : HP} {a ci : Nat} (hk : hK h a = ci) (hc : ci < 13) : cel ca ρ h a = .inr (ci, fls ρ h ci a) := by
  unfold cel
  rw [hk, if_pos hc]
theorem cel_arr {ρ : Nat → Nat} {h : HP} {a t : Nat} (hk : hK h a = 20 + t) : cel ca ρ h a = acel ca ρ h a t := by
  unfold cel
  rw [hk, if_neg (by omega), Nat.add_sub_cancel_left]
theorem sp_getfield (C : CX p l s m args meth c A D ca y b L xs) {j : Nat} (hd : decode (mCode y) pc = .ok (.getfield j, len)) (hs : stpR y (.getfield j) len pc lo st h = some (.inl (pc', lo', st', h'))) (kk : WS p l e R s m args below meth c A D ca y b L xs B1 B2 Q ρ0 n0 pc' lo' st' h') : WS p l e R s m args below meth c A D ca y b L xs B1 B2 Q ρ0 n0 pc lo st h := by
  obtain ⟨hx, hb, hml, hown, hts, hlk, hrt, hex, hin, hGT, hGH, hA, hl⟩ := id C
  simp only [stpR] at hs
  replace hs := gL_some hs
  obtain ⟨q, hs⟩ := hs
  obtain rfl := eq_of_beq q
  split at hs
  · split at hs
    · rename_i ci k hfr
      replace hs := gL_some hs
      obtain ⟨qk, hs⟩ := hs
      have qk := eq_of_beq qk
      split at hs
      · rename_i v hv
        obtain ⟨rfl, rfl, rfl, rfl⟩ := go_some hs
        obtain ⟨hci, hkn, hw⟩ := fres_ok hfr
        obtain ⟨hf1, hf2, hf3⟩ := cl_f ci hci k hkn
        intro ρ H locs cells slots ls hρ hn0 hST hLR hV e1 e2
        obtain ⟨hP, hD, hS, hwf, hr1⟩ := id hST
        obtain ⟨g1, g2⟩ := hwf.ok (by rw [qk]; omega) (by rw [qk]; omega)
        obtain ⟨f1, f2⟩ := fvl_spec (ρ := ρ) hv
        have he := wso_at ca ρ g1 g2
        rw [cel_obj qk hci] at he
        have kw := kk ρ H locs cells slots ls hρ hn0 hST hLR (VS.cons (f2 _ hwf.2.2.2.2.1) hV.tl) e1 e2
        rw [List.map_cons, tr_ref (by omega)]
        exact va_get hx hb hts (cl_in ci hci) hown hGT.1 hP _ he (cl_at ci hci) k hkn (hts _ hw) (fun z hz => by rw [hf3] at hz; exact hz) (by rw [fls_at ρ h _ hkn, f1]) hd kw
      · cases hs
    · cases hs
  · cases hs
theorem sp_putfield_T (C : CX p l s m args meth c A D ca y b L xs) {j ci k a : Nat} {v : Value} {r : List Value} {h1 : HP} (hd : decode (mCode y) pc = .ok (.putfield j, 3)) (hfr : fres (mOwn y) j = some (ci, k)) (qk : hK h a = ci) (qf : (!(ffin ci k) || (mIni y && mOwn y == ci)) = true) (hv : fsv h ci k a v = some h1) (kk : WS p l e R s m args below meth c A D ca y b L xs B1 B2 Q ρ0 n0 (pc + 3) lo r h1) : WS p l e R s m args below meth c A D ca y b L xs B1 B2 Q ρ0 n0 pc lo (v :: .ref a :: r) h := by
  obtain ⟨hx, hb, hml, hown, hts, hlk, hrt, hex, hin, hGT, hGH, hA, hl⟩ := id C
  obtain ⟨hci, hkn, hw⟩ := fres_ok hfr
  obtain ⟨hf1, hf2, hf3⟩ := cl_f ci hci k hkn
  intro ρ H locs cells slots ls hρ hn0 hST hLR hV e1 e2
  obtain ⟨hP, hD, hS, hwf, hr1, hr2, hr3⟩ := id hST
  obtain ⟨g1, g2⟩ := hwf.ok (by rw [qk]; omega) (by rw [qk]; omega)
  obtain ⟨z1, z2, z3, z4, z5, z6, z7, z8, z9, z10, z11, z12, z13, z14, z15, z16⟩ := fsv_spec (ρ := ρ) hf1 hv
  have he := wso_at ca ρ g1 g2
  rw [cel_obj qk hci] at he
  have hw1 : HWF h1 := by
    obtain ⟨w1, w2, w3, w4, w5, w6⟩ := hwf
    refine ⟨by rw [z1, z2]; exact w1, by rw [z2]; exact w2, by rw [z2]; exact w3, by rw [z1]; exact w4, fun f b => ?_, by rw [z1, z8]; exact w6⟩
    rw [z1]
    rcases z16 f b with e | e
    · rw [e]; exact w5 f b
    · have := hV.hd
      rw [e] at this
      exact this
  have hset : wso ca ρ h1 = (wso ca ρ h).set (a - 2) (ρ a, .inr (ci, (fls ρ h ci a).set k (tr ρ v))) := by
    rw [wso_set ca ρ z1 (fun b hb => ?_) g1 g2]
    · rw [cel_obj (by rw [z2]; exact qk) hci, fls_set ρ (fun j _ hj => z12 j hj) hkn, z13]
    · exact cel_agree ca (by rw [z2]) (by rw [z3]) (fun f => (z11 f b hb).1) (fun f => (z11 f b hb).2.1) (fun f => by rw [(z11 f b hb).2.2]) (fun i => by rw [z6]) (fun i => by rw [z7]) (fun i => by rw [z9]) (fun i => by rw [z10]) (fun i => by rw [z8])
  have kw : ∀ (H1 : Heap) (locs1 : List Loc), va_P D vwCl ((wso ca ρ h).set (a - 2) (ρ a, .inr (ci, (fls ρ h ci a).set k (tr ρ v)))) H1 → va_D A ((wso ca ρ h).set (a - 2) (ρ a, .inr (ci, (fls ρ h ci a).set k (tr ρ v)))) → va_S A s.heap H1 locs1 → W p l e R s m args below meth c H1 locs1 cells slots Q (F0 m (pc + 3) ls (List.map (tr ρ) r)) := fun H1 locs1 hP1 hD1 hS1 => kk ρ H1 locs1 cells slots ls hρ (by rw [z1]; exact hn0) ⟨by rw [hset]; exact hP1, by rw [hset]; exact hD1, hS1, hw1, hr1, by rw [z3]; exact hr2, by rw [z6]; exact hr3⟩ (by rw [z1]; exact hLR) (by rw [z1]; exact hV.tl.tl) (by rw [z4]; exact e1) (by rw [z5]; exact e2)
  rw [List.map_cons, List.map_cons, tr_ref (by omega)]
  have hkl : k < (fls ρ h ci a).length := by rw [fls_len]; exact hkn
  cases hff : ffin ci k with
  | false => exact va_put hx hb hts (cl_in ci hci) (clY ci) (cl_ty ci hci) (cl_nm ci hci) hown hGT.1 hP hD hS _ he (cl_at ci hci) k hkn (hts _ hw) (fun z hz => by rw [hf3] at hz; exact hz) (by rw [hf2, hff]) (cl_ty ci hci k hkn) z14 z15 hkl hd kw
  | true =>
    rw [hff] at qf
    simp only [Bool.not_true, Bool.false_or, Bool.and_eq_true, beq_iff_eq] at qf
    exact va_putF hx hb hts (cl_in ci hci) (clY ci) (cl_ty ci hci) (cl_nm ci hci) hown hGT.1 hP hD hS _ he (cl_at ci hci) k hkn (hts _ hw) (fun z hz => by rw [hf3] at hz; exact hz) (by rw [hf2, hff]) (hin qf.1) (by rw [hf3, qf.2]; exact own_cl hci) (cl_ty ci hci k hkn) z14 z15 hkl hd kw
theorem sp_putfield (C : CX p l s m args meth c A D ca y b L xs) {j : Nat} (hd : decode (mCode y) pc = .ok (.putfield j, len)) (hs : stpR y (.putfield j) len pc lo st h = some (.inl (pc', lo', st', h'))) (kk : WS p l e R s m args below meth c A D ca y b L xs B1 B2 Q ρ0 n0 pc' lo' st' h') : WS p l e R s m args below meth c A D ca y b L xs B1 B2 Q ρ0 n0 pc lo st h := by
  simp only [stpR] at hs
  replace hs := gL_some hs
  obtain ⟨q, hs⟩ := hs
  obtain rfl := eq_of_beq q
  split at hs
  · split at hs
    · rename_i ci k hfr
      replace hs := gL_some hs
      obtain ⟨qk, hs⟩ := hs
      rw [Bool.and_eq_true] at qk
      obtain ⟨qk, qf⟩ := qk
      split at hs
      · rename_i h1 hv
        obtain ⟨rfl, rfl, rfl, rfl⟩ := go_some hs
        exact sp_putfield_T C hd hfr (eq_of_beq qk) qf hv kk
      · cases hs
    · cases hs
  · cases hs
end SND3
