/-! ===== an instruction of the abstract machine is one of the machine's ===== -/
section SND2
variable {p : Program} {l : Launch} {e : Env} {R : Room} {s : State} {m : MethodId} {args : Array Value} {below : List Frame} {meth : Method} {c : Code} {A : Nat → Prop} {D : va_G} {ca : Nat → ClassId} {y : MI} {b L : Nat} {xs : Nat → Int32} {B1 B2 : Nat} {Q : State → Prop} {ρ0 : Nat → Nat} {n0 : Nat}
variable {i : Instr} {len pc pc' : Nat} {lo lo' : Lo} {st st' : List Value} {h h' : HP}
theorem gL_some {b : Bool} {r : Option SR} {x : SR} (q : gL b r = some x) : b = true ∧ r = some x := by
  unfold gL at q
  split at q
  · exact ⟨by assumption, q⟩
  · cases q
theorem go_some {pc pc' : Nat} {ls ls' : Lo} {st st' : List Value} {h h' : HP} (q : go pc ls st h = some (.inl (pc', ls', st', h'))) : pc = pc' ∧ ls = ls' ∧ st = st' ∧ h = h' := by
  unfold go at q
  cases q
  exact ⟨rfl, rfl, rfl, rfl⟩
theorem jmp_ok {pc : Nat} {off : Int} (q : jok pc off = true) : (pc : Int) + off = ((jmp pc off : Nat) : Int) := by
  unfold jok at q
  unfold jmp
  have := of_decide_eq_true q
  omega
theorem inA_ok {h : HP} {a : Nat} {i : Int32} (q : inA h a i = true) : vp_in i (hL h a) := by
  unfold inA at q
  simp only [Bool.and_eq_true, decide_eq_true_eq] at q
  obtain ⟨q1, q2⟩ := q
  intro z
  rcases z with z | z
  · rw [Int32.le_iff_toInt_le] at q1
    rw [Int32.lt_iff_toInt_lt] at z
    omega
  · omega
theorem nn32_ok {x : UInt32} (q : nn32 x = true) : vf_n32 x := by
  unfold nn32 at q
  have := of_decide_eq_true q
  exact this
theorem nn64_ok {x : UInt64} (q : nn64 x = true) : vf_n64 x := by
  unfold nn64 at q
  have := of_decide_eq_true q
  exact this
theorem isZ_nar {x : Int32} (q : isZ x = true) : vp_nar .boolean x = x ∧ narrow .boolean (.int x) = .int x := by
  unfold isZ at q
  simp only [Bool.or_eq_true, decide_eq_true_eq] at q
  rcases q with rfl | rfl <;> exact ⟨rfl, rfl⟩
/-- a push of a number -/
theorem WS.same (C : CX p l s m args meth c A D ca y b L xs) {pc pc' : Nat} {lo : Lo} {st st' : List Value} {h : HP} (hv : VS (hN h) st → VS (hN h) st')
    (row : ∀ (H : Heap) (locs : List Loc) (cells slots : Nat) (ls : Array Slot) (ρ : Nat → Nat), ST ca D A b L xs ρ h s H locs → LR ρ (hN h) (mML y) ls lo → W p l e R s m args below meth c H locs cells slots Q (F0 m pc' ls (st'.map (tr ρ))) → W p l e R s m args below meth c H locs cells slots Q (F0 m pc ls (st.map (tr ρ))))
    (kk : WS p l e R s m args below meth c A D ca y b L xs B1 B2 Q ρ0 n0 pc' lo st' h) : WS p l e R s m args below meth c A D ca y b L xs B1 B2 Q ρ0 n0 pc lo st h := by
  intro ρ H locs cells slots ls hρ hn0 hST hLR hV e1 e2
  exact row H locs cells slots ls ρ hST hLR (kk ρ H locs cells slots ls hρ hn0 hST hLR (hv hV) e1 e2)
theorem VS.int {n : Nat} {x : Int32} {st : List Value} (h : VS n st) : VS n (.int x :: st) := h.cons trivial
theorem VS.long {n : Nat} {x : Int64} {st : List Value} (h : VS n st) : VS n (.long x :: st) := h.cons trivial
theorem VS.float {n : Nat} {x : UInt32} {st : List Value} (h : VS n st) : VS n (.float x :: st) := h.cons trivial
theorem VS.double {n : Nat} {x : UInt64} {st : List Value} (h : VS n st) : VS n (.double x :: st) := h.cons trivial
theorem sp_iconst (C : CX p l s m args meth c A D ca y b L xs) {n : Int} (hd : decode (mCode y) pc = .ok (.iconst n, len)) (hs : stpR y (.iconst n) len pc lo st h = some (.inl (pc', lo', st', h'))) (kk : WS p l e R s m args below meth c A D ca y b L xs B1 B2 Q ρ0 n0 pc' lo' st' h') : WS p l e R s m args below meth c A D ca y b L xs B1 B2 Q ρ0 n0 pc lo st h := by
  obtain ⟨hx, hb, -⟩ := id C
  simp only [stpR] at hs
  replace hs := gL_some hs
  obtain ⟨q, hs⟩ := hs
  obtain rfl := eq_of_beq q
  obtain ⟨rfl, rfl, rfl, rfl⟩ := go_some hs
  exact WS.same C VS.int (fun H locs cells slots ls ρ _ _ k => lv_iconst hx hb hd rfl k) kk
theorem sp_bipush (C : CX p l s m args meth c A D ca y b L xs) {n : Int} (hd : decode (mCode y) pc = .ok (.bipush n, len)) (hs : stpR y (.bipush n) len pc lo st h = some (.inl (pc', lo', st', h'))) (kk : WS p l e R s m args below meth c A D ca y b L xs B1 B2 Q ρ0 n0 pc' lo' st' h') : WS p l e R s m args below meth c A D ca y b L xs B1 B2 Q ρ0 n0 pc lo st h := by
  obtain ⟨hx, hb, -⟩ := id C
  simp only [stpR] at hs
  replace hs := gL_some hs
  obtain ⟨q, hs⟩ := hs
  obtain rfl := eq_of_beq q
  obtain ⟨rfl, rfl, rfl, rfl⟩ := go_some hs
  exact WS.same C VS.int (fun H locs cells slots ls ρ _ _ k => lv_bipush hx hb hd rfl k) kk
theorem sp_sipush (C : CX p l s m args meth c A D ca y b L xs) {n : Int} (hd : decode (mCode y) pc = .ok (.sipush n, len)) (hs : stpR y (.sipush n) len pc lo st h = some (.inl (pc', lo', st', h'))) (kk : WS p l e R s m args below meth c A D ca y b L xs B1 B2 Q ρ0 n0 pc' lo' st' h') : WS p l e R s m args below meth c A D ca y b L xs B1 B2 Q ρ0 n0 pc lo st h := by
  obtain ⟨hx, hb, -⟩ := id C
  simp only [stpR] at hs
  replace hs := gL_some hs
  obtain ⟨q, hs⟩ := hs
  obtain rfl := eq_of_beq q
  obtain ⟨rfl, rfl, rfl, rfl⟩ := go_some hs
  exact WS.same C VS.int (fun H locs cells slots ls ρ _ _ k => lv_sipush hx hb hd rfl k) kk
theorem sp_lconst (C : CX p l s m args meth c A D ca y b L xs) {n : Fin 2} (hd : decode (mCode y) pc = .ok (.lconst n, len)) (hs : stpR y (.lconst n) len pc lo st h = some (.inl (pc', lo', st', h'))) (kk : WS p l e R s m args below meth c A D ca y b L xs B1 B2 Q ρ0 n0 pc' lo' st' h') : WS p l e R s m args below meth c A D ca y b L xs B1 B2 Q ρ0 n0 pc lo st h := by
  obtain ⟨hx, hb, -⟩ := id C
  simp only [stpR] at hs
  replace hs := gL_some hs
  obtain ⟨q, hs⟩ := hs
  obtain rfl := eq_of_beq q
  obtain ⟨rfl, rfl, rfl, rfl⟩ := go_some hs
  exact WS.same C VS.long (fun H locs cells slots ls ρ _ _ k => lv_lconst hx hb hd rfl k) kk
theorem sp_fconst (C : CX p l s m args meth c A D ca y b L xs) {n : Fin 3} (hd : decode (mCode y) pc = .ok (.fconst n, len)) (hs : stpR y (.fconst n) len pc lo st h = some (.inl (pc', lo', st', h'))) (kk : WS p l e R s m args below meth c A D ca y b L xs B1 B2 Q ρ0 n0 pc' lo' st' h') : WS p l e R s m args below meth c A D ca y b L xs B1 B2 Q ρ0 n0 pc lo st h := by
  obtain ⟨hx, hb, -⟩ := id C
  simp only [stpR] at hs
  replace hs := gL_some hs
  obtain ⟨q, hs⟩ := hs
  obtain rfl := eq_of_beq q
  split at hs
  · rename_i hn
    subst hn
    obtain ⟨rfl, rfl, rfl, rfl⟩ := go_some hs
    exact WS.same C VS.float (fun H locs cells slots ls ρ _ _ k => lv_fconst0 hx hb hd k) kk
  · split at hs
    · rename_i hn
      subst hn
      obtain ⟨rfl, rfl, rfl, rfl⟩ := go_some hs
      exact WS.same C VS.float (fun H locs cells slots ls ρ _ _ k => lv_fconst1 hx hb hd k) kk
    · cases hs
theorem sp_null (C : CX p l s m args meth c A D ca y b L xs) (hd : decode (mCode y) pc = .ok (.aconst_null, len)) (hs : stpR y .aconst_null len pc lo st h = some (.inl (pc', lo', st', h'))) (kk : WS p l e R s m args below meth c A D ca y b L xs B1 B2 Q ρ0 n0 pc' lo' st' h') : WS p l e R s m args below meth c A D ca y b L xs B1 B2 Q ρ0 n0 pc lo st h := by
  obtain ⟨hx, hb, -⟩ := id C
  simp only [stpR] at hs
  replace hs := gL_some hs
  obtain ⟨q, hs⟩ := hs
  obtain rfl := eq_of_beq q
  obtain ⟨rfl, rfl, rfl, rfl⟩ := go_some hs
  intro ρ H locs cells slots ls hρ hn0 hST hLR hV e1 e2
  have hw := hST.2.2.2.1.2.2.2.1
  exact lv_null hx hb hd (kk ρ H locs cells slots ls hρ hn0 hST hLR (VS.cons (show 0 < hN h by omega) hV) e1 e2)
theorem ldI_snd (C : CX p l s m args meth c A D ca y b L xs) {k w : Nat} (row : ∀ (H : Heap) (locs : List Loc) (cells slots : Nat) (ls : Array Slot) (x : Int32) (r : List Value), ls[k]? = some (.val (.int x)) → W p l e R s m args below meth c H locs cells slots Q (F0 m (pc + w) ls (.int x :: r)) → W p l e R s m args below meth c H locs cells slots Q (F0 m pc ls r)) (hs : ldI lo k pc w w st h = some (.inl (pc', lo', st', h'))) (kk : WS p l e R s m args below meth c A D ca y b L xs B1 B2 Q ρ0 n0 pc' lo' st' h') : WS p l e R s m args below meth c A D ca y b L xs B1 B2 Q ρ0 n0 pc lo st h := by
  unfold ldI at hs
  replace hs := (gL_some hs).2
  split at hs
  · rename_i x hl
    obtain ⟨rfl, rfl, rfl, rfl⟩ := go_some hs
    exact WS.same C VS.int (fun H locs cells slots ls ρ _ hLR k => row H locs cells slots ls x _ (hLR.2.2.2 _ _ hl).2.2 k) kk
  · cases hs
theorem ldF_snd (C : CX p l s m args meth c A D ca y b L xs) {k w : Nat} (row : ∀ (H : Heap) (locs : List Loc) (cells slots : Nat) (ls : Array Slot) (x : UInt32) (r : List Value), ls[k]? = some (.val (.float x)) → W p l e R s m args below meth c H locs cells slots Q (F0 m (pc + w) ls (.float x :: r)) → W p l e R s m args below meth c H locs cells slots Q (F0 m pc ls r)) (hs : ldF lo k pc w w st h = some (.inl (pc', lo', st', h'))) (kk : WS p l e R s m args below meth c A D ca y b L xs B1 B2 Q ρ0 n0 pc' lo' st' h') : WS p l e R s m args below meth c A D ca y b L xs B1 B2 Q ρ0 n0 pc lo st h := by
  unfold ldF at hs
  replace hs := (gL_some hs).2
  split at hs
  · rename_i x hl
    obtain ⟨rfl, rfl, rfl, rfl⟩ := go_some hs
    exact WS.same C VS.float (fun H locs cells slots ls ρ _ hLR k => row H locs cells slots ls x _ (hLR.2.2.2 _ _ hl).2.2 k) kk
  · cases hs
theorem ldA_snd (C : CX p l s m args meth c A D ca y b L xs) {k w : Nat} (row : ∀ (H : Heap) (locs : List Loc) (cells slots : Nat) (ls : Array Slot) (x : Nat) (r : List Value), ls[k]? = some (.val (.ref x)) → W p l e R s m args below meth c H locs cells slots Q (F0 m (pc + w) ls (.ref x :: r)) → W p l e R s m args below meth c H locs cells slots Q (F0 m pc ls r))
    (rowN : ∀ (H : Heap) (locs : List Loc) (cells slots : Nat) (ls : Array Slot) (r : List Value), ls[k]? = some (.val .null) → W p l e R s m args below meth c H locs cells slots Q (F0 m (pc + w) ls (.null :: r)) → W p l e R s m args below meth c H locs cells slots Q (F0 m pc ls r)) (hs : ldA lo k pc w w st h = some (.inl (pc', lo', st', h'))) (kk : WS p l e R s m args below meth c A D ca y b L xs B1 B2 Q ρ0 n0 pc' lo' st' h') : WS p l e R s m args below meth c A D ca y b L xs B1 B2 Q ρ0 n0 pc lo st h := by
  unfold ldA at hs
  replace hs := (gL_some hs).2
  split at hs
  · rename_i x hl
    obtain ⟨rfl, rfl, rfl, rfl⟩ := go_some hs
    intro ρ H locs cells slots ls hρ hn0 hST hLR hV e1 e2
    have hv := hLR.2.2.2 _ _ hl
    have k2 := kk ρ H locs cells slots ls hρ hn0 hST hLR (hV.cons hv.2.1) e1 e2
    have hv2 := hv.2.2
    rw [List.map_cons] at k2
    by_cases hx0 : x = 0
    · subst hx0
      rw [tr_null] at k2 hv2
      exact rowN H locs cells slots ls _ hv2 k2
    · rw [tr_ref hx0] at k2 hv2
      exact row H locs cells slots ls _ _ hv2 k2
  · cases hs
theorem stI_snd (C : CX p l s m args meth c A D ca y b L xs) {k w : Nat} (row : ∀ (H : Heap) (locs : List Loc) (cells slots : Nat) (ls : Array Slot) (x : Int32) (r : List Value) (lv : List (Nat × Value)), lv_has ls (mML y) lv → k < mML y → (∀ ls' : Array Slot, lv_has ls' (mML y) ((k, .int x) :: lv.filter (fun q => !(q.1 == k) && !(q.1 + 1 == k && q.2.category == 2))) → W p l e R s m args below meth c H locs cells slots Q (F0 m (pc + w) ls' r)) → W p l e R s m args below meth c H locs cells slots Q (F0 m pc ls (.int x :: r))) (hs : stI lo k pc w w st h = some (.inl (pc', lo', st', h'))) (kk : WS p l e R s m args below meth c A D ca y b L xs B1 B2 Q ρ0 n0 pc' lo' st' h') : WS p l e R s m args below meth c A D ca y b L xs B1 B2 Q ρ0 n0 pc lo st h := by
  unfold stI at hs
  replace hs := gL_some hs
  obtain ⟨q, hs⟩ := hs
  simp only [Bool.and_eq_true, decide_eq_true_eq] at q
  split at hs
  · obtain ⟨rfl, rfl, rfl, rfl⟩ := go_some hs
    intro ρ H locs cells slots ls hρ hn0 hST hLR hV e1 e2
    exact row H locs cells slots ls _ _ _ hLR.has (by rw [← hLR.1]; exact q.2) (fun ls' h' => kk ρ H locs cells slots ls' hρ hn0 hST (LR.put hLR rfl trivial h') hV.tl e1 e2)
  · cases hs
theorem stF_snd (C : CX p l s m args meth c A D ca y b L xs) {k w : Nat} (row : ∀ (H : Heap) (locs : List Loc) (cells slots : Nat) (ls : Array Slot) (x : UInt32) (r : List Value) (lv : List (Nat × Value)), lv_has ls (mML y) lv → k < mML y → (∀ ls' : Array Slot, lv_has ls' (mML y) ((k, .float x) :: lv.filter (fun q => !(q.1 == k) && !(q.1 + 1 == k && q.2.category == 2))) → W p l e R s m args below meth c H locs cells slots Q (F0 m (pc + w) ls' r)) → W p l e R s m args below meth c H locs cells slots Q (F0 m pc ls (.float x :: r))) (hs : stF lo k pc w w st h = some (.inl (pc', lo', st', h'))) (kk : WS p l e R s m args below meth c A D ca y b L xs B1 B2 Q ρ0 n0 pc' lo' st' h') : WS p l e R s m args below meth c A D ca y b L xs B1 B2 Q ρ0 n0 pc lo st h := by
  unfold stF at hs
  replace hs := gL_some hs
  obtain ⟨q, hs⟩ := hs
  simp only [Bool.and_eq_true, decide_eq_true_eq] at q
  split at hs
  · obtain ⟨rfl, rfl, rfl, rfl⟩ := go_some hs
    intro ρ H locs cells slots ls hρ hn0 hST hLR hV e1 e2
    exact row H locs cells slots ls _ _ _ hLR.has (by rw [← hLR.1]; exact q.2) (fun ls' h' => kk ρ H locs cells slots ls' hρ hn0 hST (LR.put hLR rfl trivial h') hV.tl e1 e2)
  · cases hs
theorem stA_snd (C : CX p l s m args meth c A D ca y b L xs) {k w : Nat} (row : ∀ (H : Heap) (locs : List Loc) (cells slots : Nat) (ls : Array Slot) (x : Nat) (r : List Value) (lv : List (Nat × Value)), lv_has ls (mML y) lv → k < mML y → (∀ ls' : Array Slot, lv_has ls' (mML y) ((k, .ref x) :: lv.filter (fun q => !(q.1 == k) && !(q.1 + 1 == k && q.2.category == 2))) → W p l e R s m args below meth c H locs cells slots Q (F0 m (pc + w) ls' r)) → W p l e R s m args below meth c H locs cells slots Q (F0 m pc ls (.ref x :: r)))
    (rowN : ∀ (H : Heap) (locs : List Loc) (cells slots : Nat) (ls : Array Slot) (r : List Value) (lv : List (Nat × Value)), lv_has ls (mML y) lv → k < mML y → (∀ ls' : Array Slot, lv_has ls' (mML y) ((k, .null) :: lv.filter (fun q => !(q.1 == k) && !(q.1 + 1 == k && q.2.category == 2))) → W p l e R s m args below meth c H locs cells slots Q (F0 m (pc + w) ls' r)) → W p l e R s m args below meth c H locs cells slots Q (F0 m pc ls (.null :: r))) (hs : stA lo k pc w w st h = some (.inl (pc', lo', st', h'))) (kk : WS p l e R s m args below meth c A D ca y b L xs B1 B2 Q ρ0 n0 pc' lo' st' h') : WS p l e R s m args below meth c A D ca y b L xs B1 B2 Q ρ0 n0 pc lo st h := by
  unfold stA at hs
  replace hs := gL_some hs
  obtain ⟨q, hs⟩ := hs
  simp only [Bool.and_eq_true, decide_eq_true_eq] at q
  have rowT : ∀ (ρ : Nat → Nat) (H : Heap) (locs : List Loc) (cells slots : Nat) (ls : Array Slot) (x : Nat) (r : List Value) (lv : List (Nat × Value)), lv_has ls (mML y) lv → k < mML y → (∀ ls' : Array Slot, lv_has ls' (mML y) ((k, tr ρ (.ref x)) :: lv.filter (fun q => !(q.1 == k) && !(q.1 + 1 == k && q.2.category == 2))) → W p l e R s m args below meth c H locs cells slots Q (F0 m (pc + w) ls' r)) → W p l e R s m args below meth c H locs cells slots Q (F0 m pc ls (tr ρ (.ref x) :: r)) := by
    intro ρ H locs cells slots ls x r lv g1 g2 g3
    by_cases hx0 : x = 0
    · subst hx0
      rw [tr_null] at g3 ⊢
      exact rowN H locs cells slots ls r lv g1 g2 g3
    · rw [tr_ref hx0] at g3 ⊢
      exact row H locs cells slots ls _ r lv g1 g2 g3
  split at hs
  · obtain ⟨rfl, rfl, rfl, rfl⟩ := go_some hs
    intro ρ H locs cells slots ls hρ hn0 hST hLR hV e1 e2
    exact rowT ρ H locs cells slots ls _ _ _ hLR.has (by rw [← hLR.1]; exact q.2) (fun ls' h' => kk ρ H locs cells slots ls' hρ hn0 hST (LR.put hLR rfl hV.hd h') hV.tl e1 e2)
  · cases hs
theorem sp_iload (C : CX p l s m args meth c A D ca y b L xs) {k : Nat} (hd : decode (mCode y) pc = .ok (.iload k, len)) (hs : stpR y (.iload k) len pc lo st h = some (.inl (pc', lo', st', h'))) (kk : WS p l e R s m args below meth c A D ca y b L xs B1 B2 Q ρ0 n0 pc' lo' st' h') : WS p l e R s m args below meth c A D ca y b L xs B1 B2 Q ρ0 n0 pc lo st h := by
  simp only [stpR] at hs
  obtain rfl : len = 2 := eq_of_beq (gL_some (show gL _ _ = _ from hs)).1
  exact ldI_snd C (fun H locs cells slots ls x r hl k => lv_iload C.1 C.2.1 hd hl k) hs kk
theorem sp_iload_n (C : CX p l s m args meth c A D ca y b L xs) {k : Fin 4} (hd : decode (mCode y) pc = .ok (.iload_n k, len)) (hs : stpR y (.iload_n k) len pc lo st h = some (.inl (pc', lo', st', h'))) (kk : WS p l e R s m args below meth c A D ca y b L xs B1 B2 Q ρ0 n0 pc' lo' st' h') : WS p l e R s m args below meth c A D ca y b L xs B1 B2 Q ρ0 n0 pc lo st h := by
  simp only [stpR] at hs
  obtain rfl : len = 1 := eq_of_beq (gL_some (show gL _ _ = _ from hs)).1
  exact ldI_snd C (fun H locs cells slots ls x r hl k => lv_iload_n C.1 C.2.1 hd rfl hl k) hs kk
theorem sp_fload (C : CX p l s m args meth c A D ca y b L xs) {k : Nat} (hd : decode (mCode y) pc = .ok (.fload k, len)) (hs : stpR y (.fload k) len pc lo st h = some (.inl (pc', lo', st', h'))) (kk : WS p l e R s m args below meth c A D ca y b L xs B1 B2 Q ρ0 n0 pc' lo' st' h') : WS p l e R s m args below meth c A D ca y b L xs B1 B2 Q ρ0 n0 pc lo st h := by
  simp only [stpR] at hs
  obtain rfl : len = 2 := eq_of_beq (gL_some (show gL _ _ = _ from hs)).1
  exact ldF_snd C (fun H locs cells slots ls x r hl k => lv_fload C.1 C.2.1 hd hl k) hs kk
theorem sp_fload_n (C : CX p l s m args meth c A D ca y b L xs) {k : Fin 4} (hd : decode (mCode y) pc = .ok (.fload_n k, len)) (hs : stpR y (.fload_n k) len pc lo st h = some (.inl (pc', lo', st', h'))) (kk : WS p l e R s m args below meth c A D ca y b L xs B1 B2 Q ρ0 n0 pc' lo' st' h') : WS p l e R s m args below meth c A D ca y b L xs B1 B2 Q ρ0 n0 pc lo st h := by
  simp only [stpR] at hs
  obtain rfl : len = 1 := eq_of_beq (gL_some (show gL _ _ = _ from hs)).1
  exact ldF_snd C (fun H locs cells slots ls x r hl k => lv_fload_n C.1 C.2.1 hd rfl hl k) hs kk
theorem sp_aload (C : CX p l s m args meth c A D ca y b L xs) {k : Nat} (hd : decode (mCode y) pc = .ok (.aload k, len)) (hs : stpR y (.aload k) len pc lo st h = some (.inl (pc', lo', st', h'))) (kk : WS p l e R s m args below meth c A D ca y b L xs B1 B2 Q ρ0 n0 pc' lo' st' h') : WS p l e R s m args below meth c A D ca y b L xs B1 B2 Q ρ0 n0 pc lo st h := by
  simp only [stpR] at hs
  obtain rfl : len = 2 := eq_of_beq (gL_some (show gL _ _ = _ from hs)).1
  exact ldA_snd C (fun H locs cells slots ls x r hl k => lv_aload C.1 C.2.1 hd hl k) (fun H locs cells slots ls r hl k => lv_aloadN C.1 C.2.1 hd hl k) hs kk
theorem sp_aload_n (C : CX p l s m args meth c A D ca y b L xs) {k : Fin 4} (hd : decode (mCode y) pc = .ok (.aload_n k, len)) (hs : stpR y (.aload_n k) len pc lo st h = some (.inl (pc', lo', st', h'))) (kk : WS p l e R s m args below meth c A D ca y b L xs B1 B2 Q ρ0 n0 pc' lo' st' h') : WS p l e R s m args below meth c A D ca y b L xs B1 B2 Q ρ0 n0 pc lo st h := by
  simp only [stpR] at hs
  obtain rfl : len = 1 := eq_of_beq (gL_some (show gL _ _ = _ from hs)).1
  exact ldA_snd C (fun H locs cells slots ls x r hl k => lv_aload_n C.1 C.2.1 hd rfl hl k) (fun H locs cells slots ls r hl k => lv_aload_nN C.1 C.2.1 hd rfl hl k) hs kk
theorem st_len {b : Nat} {k : Nat} {r : Option SR} {x : SR} {lo : Lo} (h : gL (len == b && decide (k < lo.length)) r = some x) : len = b := by
  have := (gL_some h).1
  simp only [Bool.and_eq_true, beq_iff_eq] at this
  exact this.1
theorem sp_istore (C : CX p l s m args meth c A D ca y b L xs) {k : Nat} (hd : decode (mCode y) pc = .ok (.istore k, len)) (hs : stpR y (.istore k) len pc lo st h = some (.inl (pc', lo', st', h'))) (kk : WS p l e R s m args below meth c A D ca y b L xs B1 B2 Q ρ0 n0 pc' lo' st' h') : WS p l e R s m args below meth c A D ca y b L xs B1 B2 Q ρ0 n0 pc lo st h := by
  simp only [stpR] at hs
  obtain rfl : len = 2 := st_len hs
  exact stI_snd C (fun H locs cells slots ls x r lv hl hk k => lv_istore C.1 C.2.1 hd hl hk rfl k) hs kk
theorem sp_istore_n (C : CX p l s m args meth c A D ca y b L xs) {k : Fin 4} (hd : decode (mCode y) pc = .ok (.istore_n k, len)) (hs : stpR y (.istore_n k) len pc lo st h = some (.inl (pc', lo', st', h'))) (kk : WS p l e R s m args below meth c A D ca y b L xs B1 B2 Q ρ0 n0 pc' lo' st' h') : WS p l e R s m args below meth c A D ca y b L xs B1 B2 Q ρ0 n0 pc lo st h := by
  simp only [stpR] at hs
  obtain rfl : len = 1 := st_len hs
  exact stI_snd C (fun H locs cells slots ls x r lv hl hk k => lv_istore_n C.1 C.2.1 hd rfl hl hk rfl k) hs kk
theorem sp_fstore (C : CX p l s m args meth c A D ca y b L xs) {k : Nat} (hd : decode (mCode y) pc = .ok (.fstore k, len)) (hs : stpR y (.fstore k) len pc lo st h = some (.inl (pc', lo', st', h'))) (kk : WS p l e R s m args below meth c A D ca y b L xs B1 B2 Q ρ0 n0 pc' lo' st' h') : WS p l e R s m args below meth c A D ca y b L xs B1 B2 Q ρ0 n0 pc lo st h := by
  simp only [stpR] at hs
  obtain rfl : len = 2 := st_len hs
  exact stF_snd C (fun H locs cells slots ls x r lv hl hk k => lv_fstore C.1 C.2.1 hd hl hk rfl k) hs kk
theorem sp_fstore_n (C : CX p l s m args meth c A D ca y b L xs) {k : Fin 4} (hd : decode (mCode y) pc = .ok (.fstore_n k, len)) (hs : stpR y (.fstore_n k) len pc lo st h = some (.inl (pc', lo', st', h'))) (kk : WS p l e R s m args below meth c A D ca y b L xs B1 B2 Q ρ0 n0 pc' lo' st' h') : WS p l e R s m args below meth c A D ca y b L xs B1 B2 Q ρ0 n0 pc lo st h := by
  simp only [stpR] at hs
  obtain rfl : len = 1 := st_len hs
  exact stF_snd C (fun H locs cells slots ls x r lv hl hk k => lv_fstore_n C.1 C.2.1 hd rfl hl hk rfl k) hs kk
theorem sp_astore (C : CX p l s m args meth c A D ca y b L xs) {k : Nat} (hd : decode (mCode y) pc = .ok (.astore k, len)) (hs : stpR y (.astore k) len pc lo st h = some (.inl (pc', lo', st', h'))) (kk : WS p l e R s m args below meth c A D ca y b L xs B1 B2 Q ρ0 n0 pc' lo' st' h') : WS p l e R s m args below meth c A D ca y b L xs B1 B2 Q ρ0 n0 pc lo st h := by
  simp only [stpR] at hs
  obtain rfl : len = 2 := st_len hs
  exact stA_snd C (fun H locs cells slots ls x r lv hl hk k => lv_astore C.1 C.2.1 hd hl hk rfl k) (fun H locs cells slots ls r lv hl hk k => lv_astoreN C.1 C.2.1 hd hl hk rfl k) hs kk
theorem sp_astore_n (C : CX p l s m args meth c A D ca y b L xs) {k : Fin 4} (hd : decode (mCode y) pc = .ok (.astore_n k, len)) (hs : stpR y (.astore_n k) len pc lo st h = some (.inl (pc', lo', st', h'))) (kk : WS p l e R s m args below meth c A D ca y b L xs B1 B2 Q ρ0 n0 pc' lo' st' h') : WS p l e R s m args below meth c A D ca y b L xs B1 B2 Q ρ0 n0 pc lo st h := by
  simp only [stpR] at hs
  obtain rfl : len = 1 := st_len hs
  exact stA_snd C (fun H locs cells slots ls x r lv hl hk k => lv_astore_n C.1 C.2.1 hd rfl hl hk rfl k) (fun H locs cells slots ls r lv hl hk k => lv_astore_nN C.1 C.2.1 hd rfl hl hk rfl k) hs kk
theorem sp_iinc (C : CX p l s m args meth c A D ca y b L xs) {k : Nat} {n : Int} (hd : decode (mCode y) pc = .ok (.iinc k n, len)) (hs : stpR y (.iinc k n) len pc lo st h = some (.inl (pc', lo', st', h'))) (kk : WS p l e R s m args below meth c A D ca y b L xs B1 B2 Q ρ0 n0 pc' lo' st' h') : WS p l e R s m args below meth c A D ca y b L xs B1 B2 Q ρ0 n0 pc lo st h := by
  obtain ⟨hx, hb, -⟩ := id C
  simp only [stpR] at hs
  replace hs := gL_some hs
  obtain ⟨q, hs⟩ := hs
  obtain rfl := eq_of_beq q
  split at hs
  · rename_i x hl
    obtain ⟨rfl, rfl, rfl, rfl⟩ := go_some hs
    intro ρ H locs cells slots ls hρ hn0 hST hLR hV e1 e2
    have hm := lvo_mem (ρ := ρ) lo 0 k _ hl
    rw [Nat.zero_add] at hm
    obtain ⟨j, hj⟩ := List.getElem?_of_mem hm
    have hk : k < mML y := by rw [← hLR.1]; exact (List.getElem?_eq_some_iff.mp hl).1
    exact lv_iinc hx hb hd hLR.has hj rfl hk rfl (fun ls' h' => kk ρ H locs cells slots ls' hρ hn0 hST (LR.put (v := .int (x + Int32.ofInt n)) hLR rfl trivial h') hV e1 e2)
  · cases hs
theorem ii2_snd (C : CX p l s m args meth c A D ca y b L xs) {f : Int32 → Int32 → Int32} (row : ∀ (H : Heap) (locs : List Loc) (cells slots : Nat) (ls : Array Slot) (x z : Int32) (r : List Value), W p l e R s m args below meth c H locs cells slots Q (F0 m (pc + 1) ls (.int (f x z) :: r)) → W p l e R s m args below meth c H locs cells slots Q (F0 m pc ls (.int z :: .int x :: r))) (hs : ii2 f pc 1 lo st h = some (.inl (pc', lo', st', h'))) (kk : WS p l e R s m args below meth c A D ca y b L xs B1 B2 Q ρ0 n0 pc' lo' st' h') : WS p l e R s m args below meth c A D ca y b L xs B1 B2 Q ρ0 n0 pc lo st h := by
  unfold ii2 at hs
  replace hs := (gL_some hs).2
  split at hs
  · obtain ⟨rfl, rfl, rfl, rfl⟩ := go_some hs
    exact WS.same C (fun h => VS.int h.tl.tl) (fun H locs cells slots ls ρ _ _ k => row H locs cells slots ls _ _ _ k) kk
  · cases hs
theorem ff2_snd (C : CX p l s m args meth c A D ca y b L xs) {f : UInt32 → UInt32 → UInt32} (row : ∀ (H : Heap) (locs : List Loc) (cells slots : Nat) (ls : Array Slot) (x z : UInt32) (r : List Value), vf_n32 (f x z) → W p l e R s m args below meth c H locs cells slots Q (F0 m (pc + 1) ls (.float (f x z) :: r)) → W p l e R s m args below meth c H locs cells slots Q (F0 m pc ls (.float z :: .float x :: r))) (hs : ff2 f pc 1 lo st h = some (.inl (pc', lo', st', h'))) (kk : WS p l e R s m args below meth c A D ca y b L xs B1 B2 Q ρ0 n0 pc' lo' st' h') : WS p l e R s m args below meth c A D ca y b L xs B1 B2 Q ρ0 n0 pc lo st h := by
  unfold ff2 at hs
  replace hs := (gL_some hs).2
  split at hs
  · obtain ⟨q, hs⟩ := gL_some hs
    obtain ⟨rfl, rfl, rfl, rfl⟩ := go_some hs
    exact WS.same C (fun h => VS.float h.tl.tl) (fun H locs cells slots ls ρ _ _ k => row H locs cells slots ls _ _ _ (nn32_ok q) k) kk
  · cases hs
theorem sp_iadd (C : CX p l s m args meth c A D ca y b L xs) (hd : decode (mCode y) pc = .ok (.iadd, len)) (hs : stpR y .iadd len pc lo st h = some (.inl (pc', lo', st', h'))) (kk : WS p l e R s m args below meth c A D ca y b L xs B1 B2 Q ρ0 n0 pc' lo' st' h') : WS p l e R s m args below meth c A D ca y b L xs B1 B2 Q ρ0 n0 pc lo st h := by
  simp only [stpR] at hs
  obtain rfl : len = 1 := eq_of_beq (gL_some (show gL _ _ = _ from hs)).1
  exact ii2_snd C (fun H locs cells slots ls x z r k => lv_iadd C.1 C.2.1 hd k) hs kk
theorem sp_isub (C : CX p l s m args meth c A D ca y b L xs) (hd : decode (mCode y) pc = .ok (.isub, len)) (hs : stpR y .isub len pc lo st h = some (.inl (pc', lo', st', h'))) (kk : WS p l e R s m args below meth c A D ca y b L xs B1 B2 Q ρ0 n0 pc' lo' st' h') : WS p l e R s m args below meth c A D ca y b L xs B1 B2 Q ρ0 n0 pc lo st h := by
  simp only [stpR] at hs
  obtain rfl : len = 1 := eq_of_beq (gL_some (show gL _ _ = _ from hs)).1
  exact ii2_snd C (fun H locs cells slots ls x z r k => lv_isub C.1 C.2.1 hd k) hs kk
theorem sp_imul (C : CX p l s m args meth c A D ca y b L xs) (hd : decode (mCode y) pc = .ok (.imul, len)) (hs : stpR y .imul len pc lo st h = some (.inl (pc', lo', st', h'))) (kk : WS p l e R s m args below meth c A D ca y b L xs B1 B2 Q ρ0 n0 pc' lo' st' h') : WS p l e R s m args below meth c A D ca y b L xs B1 B2 Q ρ0 n0 pc lo st h := by
  simp only [stpR] at hs
  obtain rfl : len = 1 := eq_of_beq (gL_some (show gL _ _ = _ from hs)).1
  exact ii2_snd C (fun H locs cells slots ls x z r k => lv_imul C.1 C.2.1 hd k) hs kk
theorem sp_iand (C : CX p l s m args meth c A D ca y b L xs) (hd : decode (mCode y) pc = .ok (.iand, len)) (hs : stpR y .iand len pc lo st h = some (.inl (pc', lo', st', h'))) (kk : WS p l e R s m args below meth c A D ca y b L xs B1 B2 Q ρ0 n0 pc' lo' st' h') : WS p l e R s m args below meth c A D ca y b L xs B1 B2 Q ρ0 n0 pc lo st h := by
  simp only [stpR] at hs
  obtain rfl : len = 1 := eq_of_beq (gL_some (show gL _ _ = _ from hs)).1
  exact ii2_snd C (fun H locs cells slots ls x z r k => lv_iand C.1 C.2.1 hd k) hs kk
theorem sp_ior (C : CX p l s m args meth c A D ca y b L xs) (hd : decode (mCode y) pc = .ok (.ior, len)) (hs : stpR y .ior len pc lo st h = some (.inl (pc', lo', st', h'))) (kk : WS p l e R s m args below meth c A D ca y b L xs B1 B2 Q ρ0 n0 pc' lo' st' h') : WS p l e R s m args below meth c A D ca y b L xs B1 B2 Q ρ0 n0 pc lo st h := by
  simp only [stpR] at hs
  obtain rfl : len = 1 := eq_of_beq (gL_some (show gL _ _ = _ from hs)).1
  exact ii2_snd C (fun H locs cells slots ls x z r k => lv_ior C.1 C.2.1 hd k) hs kk
theorem sp_ixor (C : CX p l s m args meth c A D ca y b L xs) (hd : decode (mCode y) pc = .ok (.ixor, len)) (hs : stpR y .ixor len pc lo st h = some (.inl (pc', lo', st', h'))) (kk : WS p l e R s m args below meth c A D ca y b L xs B1 B2 Q ρ0 n0 pc' lo' st' h') : WS p l e R s m args below meth c A D ca y b L xs B1 B2 Q ρ0 n0 pc lo st h := by
  simp only [stpR] at hs
  obtain rfl : len = 1 := eq_of_beq (gL_some (show gL _ _ = _ from hs)).1
  exact ii2_snd C (fun H locs cells slots ls x z r k => lv_ixor C.1 C.2.1 hd k) hs kk
theorem sp_ishl (C : CX p l s m args meth c A D ca y b L xs) (hd : decode (mCode y) pc = .ok (.ishl, len)) (hs : stpR y .ishl len pc lo st h = some (.inl (pc', lo', st', h'))) (kk : WS p l e R s m args below meth c A D ca y b L xs B1 B2 Q ρ0 n0 pc' lo' st' h') : WS p l e R s m args below meth c A D ca y b L xs B1 B2 Q ρ0 n0 pc lo st h := by
  simp only [stpR] at hs
  obtain rfl : len = 1 := eq_of_beq (gL_some (show gL _ _ = _ from hs)).1
  exact ii2_snd C (fun H locs cells slots ls x z r k => lv_ishl C.1 C.2.1 hd k) hs kk
theorem sp_ishr (C : CX p l s m args meth c A D ca y b L xs) (hd : decode (mCode y) pc = .ok (.ishr, len)) (hs : stpR y .ishr len pc lo st h = some (.inl (pc', lo', st', h'))) (kk : WS p l e R s m args below meth c A D ca y b L xs B1 B2 Q ρ0 n0 pc' lo' st' h') : WS p l e R s m args below meth c A D ca y b L xs B1 B2 Q ρ0 n0 pc lo st h := by
  simp only [stpR] at hs
  obtain rfl : len = 1 := eq_of_beq (gL_some (show gL _ _ = _ from hs)).1
  exact ii2_snd C (fun H locs cells slots ls x z r k => lv_ishr C.1 C.2.1 hd k) hs kk
theorem sp_iushr (C : CX p l s m args meth c A D ca y b L xs) (hd : decode (mCode y) pc = .ok (.iushr, len)) (hs : stpR y .iushr len pc lo st h = some (.inl (pc', lo', st', h'))) (kk : WS p l e R s m args below meth c A D ca y b L xs B1 B2 Q ρ0 n0 pc' lo' st' h') : WS p l e R s m args below meth c A D ca y b L xs B1 B2 Q ρ0 n0 pc lo st h := by
  simp only [stpR] at hs
  obtain rfl : len = 1 := eq_of_beq (gL_some (show gL _ _ = _ from hs)).1
  exact ii2_snd C (fun H locs cells slots ls x z r k => lv_iushr C.1 C.2.1 hd rfl k) hs kk
theorem sp_fadd (C : CX p l s m args meth c A D ca y b L xs) (hd : decode (mCode y) pc = .ok (.fadd, len)) (hs : stpR y .fadd len pc lo st h = some (.inl (pc', lo', st', h'))) (kk : WS p l e R s m args below meth c A D ca y b L xs B1 B2 Q ρ0 n0 pc' lo' st' h') : WS p l e R s m args below meth c A D ca y b L xs B1 B2 Q ρ0 n0 pc lo st h := by
  simp only [stpR] at hs
  obtain rfl : len = 1 := eq_of_beq (gL_some (show gL _ _ = _ from hs)).1
  exact ff2_snd C (fun H locs cells slots ls x z r hn k => lv_fadd C.1 C.2.1 hd hn k) hs kk
theorem sp_fsub (C : CX p l s m args meth c A D ca y b L xs) (hd : decode (mCode y) pc = .ok (.fsub, len)) (hs : stpR y .fsub len pc lo st h = some (.inl (pc', lo', st', h'))) (kk : WS p l e R s m args below meth c A D ca y b L xs B1 B2 Q ρ0 n0 pc' lo' st' h') : WS p l e R s m args below meth c A D ca y b L xs B1 B2 Q ρ0 n0 pc lo st h := by
  simp only [stpR] at hs
  obtain rfl : len = 1 := eq_of_beq (gL_some (show gL _ _ = _ from hs)).1
  exact ff2_snd C (fun H locs cells slots ls x z r hn k => lv_fsub C.1 C.2.1 hd hn k) hs kk
theorem sp_fmul (C : CX p l s m args meth c A D ca y b L xs) (hd : decode (mCode y) pc = .ok (.fmul, len)) (hs : stpR y .fmul len pc lo st h = some (.inl (pc', lo', st', h'))) (kk : WS p l e R s m args below meth c A D ca y b L xs B1 B2 Q ρ0 n0 pc' lo' st' h') : WS p l e R s m args below meth c A D ca y b L xs B1 B2 Q ρ0 n0 pc lo st h := by
  simp only [stpR] at hs
  obtain rfl : len = 1 := eq_of_beq (gL_some (show gL _ _ = _ from hs)).1
  exact ff2_snd C (fun H locs cells slots ls x z r hn k => lv_fmul C.1 C.2.1 hd hn k) hs kk
theorem sp_fdiv (C : CX p l s m args meth c A D ca y b L xs) (hd : decode (mCode y) pc = .ok (.fdiv, len)) (hs : stpR y .fdiv len pc lo st h = some (.inl (pc', lo', st', h'))) (kk : WS p l e R s m args below meth c A D ca y b L xs B1 B2 Q ρ0 n0 pc' lo' st' h') : WS p l e R s m args below meth c A D ca y b L xs B1 B2 Q ρ0 n0 pc lo st h := by
  simp only [stpR] at hs
  obtain rfl : len = 1 := eq_of_beq (gL_some (show gL _ _ = _ from hs)).1
  exact ff2_snd C (fun H locs cells slots ls x z r hn k => lv_fdiv C.1 C.2.1 hd hn k) hs kk
theorem sp_idiv (C : CX p l s m args meth c A D ca y b L xs) (hd : decode (mCode y) pc = .ok (.idiv, len)) (hs : stpR y .idiv len pc lo st h = some (.inl (pc', lo', st', h'))) (kk : WS p l e R s m args below meth c A D ca y b L xs B1 B2 Q ρ0 n0 pc' lo' st' h') : WS p l e R s m args below meth c A D ca y b L xs B1 B2 Q ρ0 n0 pc lo st h := by
  obtain ⟨hx, hb, -⟩ := id C
  simp only [stpR] at hs
  replace hs := gL_some hs
  obtain ⟨q, hs⟩ := hs
  obtain rfl := eq_of_beq q
  split at hs
  · split at hs
    · cases hs
    · rename_i hne
      obtain ⟨rfl, rfl, rfl, rfl⟩ := go_some hs
      exact WS.same C (fun h => VS.int h.tl.tl) (fun H locs cells slots ls ρ _ _ k => lv_idiv hx hb hd hne k) kk
  · cases hs
theorem sp_fcmp (C : CX p l s m args meth c A D ca y b L xs) {op : CmpOp} (hd : decode (mCode y) pc = .ok (.fcmp op, len)) (hs : stpR y (.fcmp op) len pc lo st h = some (.inl (pc', lo', st', h'))) (kk : WS p l e R s m args below meth c A D ca y b L xs B1 B2 Q ρ0 n0 pc' lo' st' h') : WS p l e R s m args below meth c A D ca y b L xs B1 B2 Q ρ0 n0 pc lo st h := by
  obtain ⟨hx, hb, -⟩ := id C
  simp only [stpR] at hs
  replace hs := gL_some hs
  obtain ⟨q, hs⟩ := hs
  obtain rfl := eq_of_beq q
  split at hs
  · obtain ⟨rfl, rfl, rfl, rfl⟩ := go_some hs
    exact WS.same C (fun h => VS.int h.tl.tl) (fun H locs cells slots ls ρ _ _ k => lv_fcmp hx hb hd k) kk
  · cases hs
theorem sp_dcmp (C : CX p l s m args meth c A D ca y b L xs) {op : CmpOp} (hd : decode (mCode y) pc = .ok (.dcmp op, len)) (hs : stpR y (.dcmp op) len pc lo st h = some (.inl (pc', lo', st', h'))) (kk : WS p l e R s m args below meth c A D ca y b L xs B1 B2 Q ρ0 n0 pc' lo' st' h') : WS p l e R s m args below meth c A D ca y b L xs B1 B2 Q ρ0 n0 pc lo st h := by
  obtain ⟨hx, hb, -⟩ := id C
  simp only [stpR] at hs
  replace hs := gL_some hs
  obtain ⟨q, hs⟩ := hs
  obtain rfl := eq_of_beq q
  split at hs
  · obtain ⟨rfl, rfl, rfl, rfl⟩ := go_some hs
    exact WS.same C (fun h => VS.int h.tl.tl) (fun H locs cells slots ls ρ _ _ k => lv_dcmp hx hb hd k) kk
  · cases hs
theorem sp_lcmp (C : CX p l s m args meth c A D ca y b L xs) (hd : decode (mCode y) pc = .ok (.lcmp, len)) (hs : stpR y .lcmp len pc lo st h = some (.inl (pc', lo', st', h'))) (kk : WS p l e R s m args below meth c A D ca y b L xs B1 B2 Q ρ0 n0 pc' lo' st' h') : WS p l e R s m args below meth c A D ca y b L xs B1 B2 Q ρ0 n0 pc lo st h := by
  obtain ⟨hx, hb, -⟩ := id C
  simp only [stpR] at hs
  replace hs := gL_some hs
  obtain ⟨q, hs⟩ := hs
  obtain rfl := eq_of_beq q
  split at hs
  · obtain ⟨rfl, rfl, rfl, rfl⟩ := go_some hs
    exact WS.same C (fun h => VS.int h.tl.tl) (fun H locs cells slots ls ρ _ _ k => W.lcmp hx hb hd k) kk
  · cases hs
theorem sp_i2l (C : CX p l s m args meth c A D ca y b L xs) (hd : decode (mCode y) pc = .ok (.i2l, len)) (hs : stpR y .i2l len pc lo st h = some (.inl (pc', lo', st', h'))) (kk : WS p l e R s m args below meth c A D ca y b L xs B1 B2 Q ρ0 n0 pc' lo' st' h') : WS p l e R s m args below meth c A D ca y b L xs B1 B2 Q ρ0 n0 pc lo st h := by
  obtain ⟨hx, hb, -⟩ := id C
  simp only [stpR] at hs
  replace hs := gL_some hs
  obtain ⟨q, hs⟩ := hs
  obtain rfl := eq_of_beq q
  split at hs
  · obtain ⟨rfl, rfl, rfl, rfl⟩ := go_some hs
    exact WS.same C (fun h => VS.long h.tl) (fun H locs cells slots ls ρ _ _ k => lv_i2l hx hb hd rfl k) kk
  · cases hs
theorem sp_i2f (C : CX p l s m args meth c A D ca y b L xs) (hd : decode (mCode y) pc = .ok (.i2f, len)) (hs : stpR y .i2f len pc lo st h = some (.inl (pc', lo', st', h'))) (kk : WS p l e R s m args below meth c A D ca y b L xs B1 B2 Q ρ0 n0 pc' lo' st' h') : WS p l e R s m args below meth c A D ca y b L xs B1 B2 Q ρ0 n0 pc lo st h := by
  obtain ⟨hx, hb, -⟩ := id C
  simp only [stpR] at hs
  replace hs := gL_some hs
  obtain ⟨q, hs⟩ := hs
  obtain rfl := eq_of_beq q
  split at hs
  · obtain ⟨rfl, rfl, rfl, rfl⟩ := go_some hs
    exact WS.same C (fun h => VS.float h.tl) (fun H locs cells slots ls ρ _ _ k => lv_i2f hx hb hd k) kk
  · cases hs
theorem sp_f2d (C : CX p l s m args meth c A D ca y b L xs) (hd : decode (mCode y) pc = .ok (.f2d, len)) (hs : stpR y .f2d len pc lo st h = some (.inl (pc', lo', st', h'))) (kk : WS p l e R s m args below meth c A D ca y b L xs B1 B2 Q ρ0 n0 pc' lo' st' h') : WS p l e R s m args below meth c A D ca y b L xs B1 B2 Q ρ0 n0 pc lo st h := by
  obtain ⟨hx, hb, -⟩ := id C
  simp only [stpR] at hs
  replace hs := gL_some hs
  obtain ⟨q, hs⟩ := hs
  obtain rfl := eq_of_beq q
  split at hs
  · obtain ⟨q2, hs⟩ := gL_some hs
    obtain ⟨rfl, rfl, rfl, rfl⟩ := go_some hs
    exact WS.same C (fun h => VS.double h.tl) (fun H locs cells slots ls ρ _ _ k => lv_f2d hx hb hd (nn64_ok q2) k) kk
  · cases hs
theorem sp_dup (C : CX p l s m args meth c A D ca y b L xs) (hd : decode (mCode y) pc = .ok (.dup, len)) (hs : stpR y .dup len pc lo st h = some (.inl (pc', lo', st', h'))) (kk : WS p l e R s m args below meth c A D ca y b L xs B1 B2 Q ρ0 n0 pc' lo' st' h') : WS p l e R s m args below meth c A D ca y b L xs B1 B2 Q ρ0 n0 pc lo st h := by
  obtain ⟨hx, hb, -⟩ := id C
  simp only [stpR] at hs
  replace hs := gL_some hs
  obtain ⟨q, hs⟩ := hs
  obtain rfl := eq_of_beq q
  split at hs
  · obtain ⟨q2, hs⟩ := gL_some hs
    obtain ⟨rfl, rfl, rfl, rfl⟩ := go_some hs
    exact WS.same C (fun h => h.cons h.hd) (fun H locs cells slots ls ρ _ _ k => lv_dup hx hb hd (by rw [tr_cat]; exact c1_cat q2) k) kk
  · cases hs
theorem sp_dup2 (C : CX p l s m args meth c A D ca y b L xs) (hd : decode (mCode y) pc = .ok (.dup2, len)) (hs : stpR y .dup2 len pc lo st h = some (.inl (pc', lo', st', h'))) (kk : WS p l e R s m args below meth c A D ca y b L xs B1 B2 Q ρ0 n0 pc' lo' st' h') : WS p l e R s m args below meth c A D ca y b L xs B1 B2 Q ρ0 n0 pc lo st h := by
  obtain ⟨hx, hb, -⟩ := id C
  simp only [stpR] at hs
  replace hs := gL_some hs
  obtain ⟨q, hs⟩ := hs
  obtain rfl := eq_of_beq q
  split at hs
  · obtain ⟨q2, hs⟩ := gL_some hs
    simp only [Bool.and_eq_true] at q2
    obtain ⟨rfl, rfl, rfl, rfl⟩ := go_some hs
    exact WS.same C (fun h => (h.cons h.tl.hd).cons h.hd) (fun H locs cells slots ls ρ _ _ k => lv_dup2_11 hx hb hd (by rw [tr_cat]; exact c1_cat q2.1) (by rw [tr_cat]; exact c1_cat q2.2) k) kk
  · cases hs
theorem sp_pop (C : CX p l s m args meth c A D ca y b L xs) (hd : decode (mCode y) pc = .ok (.pop, len)) (hs : stpR y .pop len pc lo st h = some (.inl (pc', lo', st', h'))) (kk : WS p l e R s m args below meth c A D ca y b L xs B1 B2 Q ρ0 n0 pc' lo' st' h') : WS p l e R s m args below meth c A D ca y b L xs B1 B2 Q ρ0 n0 pc lo st h := by
  obtain ⟨hx, hb, -⟩ := id C
  simp only [stpR] at hs
  replace hs := gL_some hs
  obtain ⟨q, hs⟩ := hs
  obtain rfl := eq_of_beq q
  split at hs
  · obtain ⟨q2, hs⟩ := gL_some hs
    obtain ⟨rfl, rfl, rfl, rfl⟩ := go_some hs
    exact WS.same C (fun h => h.tl) (fun H locs cells slots ls ρ _ _ k => lv_pop hx hb hd (by rw [tr_cat]; exact c1_cat q2) k) kk
  · cases hs
theorem br_snd {P : Prop} [Decidable P] {off : Int} {st0 st1 : List Value} (hv : VS (hN h) st0 → VS (hN h) st1)
    (row : ∀ (H : Heap) (locs : List Loc) (cells slots : Nat) (ls : Array Slot) (ρ : Nat → Nat) (tgt : Nat), (pc : Int) + off = (tgt : Int) → VS (hN h) st0 → (P → W p l e R s m args below meth c H locs cells slots Q (F0 m tgt ls (st1.map (tr ρ)))) → (¬ P → W p l e R s m args below meth c H locs cells slots Q (F0 m (pc + 3) ls (st1.map (tr ρ)))) → W p l e R s m args below meth c H locs cells slots Q (F0 m pc ls (st0.map (tr ρ))))
    (hs : br P pc off lo st1 h = some (.inl (pc', lo', st', h'))) (kk : WS p l e R s m args below meth c A D ca y b L xs B1 B2 Q ρ0 n0 pc' lo' st' h') : WS p l e R s m args below meth c A D ca y b L xs B1 B2 Q ρ0 n0 pc lo st0 h := by
  unfold br at hs
  replace hs := gL_some hs
  obtain ⟨q, hs⟩ := hs
  have hj := jmp_ok q
  intro ρ H locs cells slots ls hρ hn0 hST hLR hV e1 e2
  split at hs
  · rename_i hp
    obtain ⟨rfl, rfl, rfl, rfl⟩ := go_some hs
    exact row H locs cells slots ls ρ _ hj hV (fun _ => kk ρ H locs cells slots ls hρ hn0 hST hLR (hv hV) e1 e2) (fun n => absurd hp n)
  · rename_i hp
    obtain ⟨rfl, rfl, rfl, rfl⟩ := go_some hs
    exact row H locs cells slots ls ρ _ hj hV (fun n => absurd n hp) (fun _ => kk ρ H locs cells slots ls hρ hn0 hST hLR (hv hV) e1 e2)
theorem sp_if (C : CX p l s m args meth c A D ca y b L xs) {cd : ClassFile.Cond} {off : Int} (hd : decode (mCode y) pc = .ok (.ifCond cd off, len)) (hs : stpR y (.ifCond cd off) len pc lo st h = some (.inl (pc', lo', st', h'))) (kk : WS p l e R s m args below meth c A D ca y b L xs B1 B2 Q ρ0 n0 pc' lo' st' h') : WS p l e R s m args below meth c A D ca y b L xs B1 B2 Q ρ0 n0 pc lo st h := by
  obtain ⟨hx, hb, -⟩ := id C
  simp only [stpR] at hs
  replace hs := gL_some hs
  obtain ⟨q, hs⟩ := hs
  obtain rfl := eq_of_beq q
  split at hs
  · cases cd <;> simp only at hs
    · exact br_snd VS.tl (fun H locs cells slots ls ρ tgt ht _ a b => lv_if_eq hx hb hd ht a b) hs kk
    · exact br_snd VS.tl (fun H locs cells slots ls ρ tgt ht _ a b => lv_if_ne hx hb hd ht a (fun z => b (fun n => n z))) hs kk
    · exact br_snd VS.tl (fun H locs cells slots ls ρ tgt ht _ a b => lv_if_lt hx hb hd ht a b) hs kk
    · exact br_snd VS.tl (fun H locs cells slots ls ρ tgt ht _ a b => lv_if_ge hx hb hd ht a b) hs kk
    · exact br_snd VS.tl (fun H locs cells slots ls ρ tgt ht _ a b => lv_if_gt hx hb hd ht a b) hs kk
    · exact br_snd VS.tl (fun H locs cells slots ls ρ tgt ht _ a b => lv_if_le hx hb hd ht a b) hs kk
  · cases hs
theorem sp_icmp (C : CX p l s m args meth c A D ca y b L xs) {cd : ClassFile.Cond} {off : Int} (hd : decode (mCode y) pc = .ok (.if_icmp cd off, len)) (hs : stpR y (.if_icmp cd off) len pc lo st h = some (.inl (pc', lo', st', h'))) (kk : WS p l e R s m args below meth c A D ca y b L xs B1 B2 Q ρ0 n0 pc' lo' st' h') : WS p l e R s m args below meth c A D ca y b L xs B1 B2 Q ρ0 n0 pc lo st h := by
  obtain ⟨hx, hb, -⟩ := id C
  simp only [stpR] at hs
  replace hs := gL_some hs
  obtain ⟨q, hs⟩ := hs
  obtain rfl := eq_of_beq q
  split at hs
  · cases cd <;> simp only at hs
    · exact br_snd (fun h => h.tl.tl) (fun H locs cells slots ls ρ tgt ht _ a b => lv_icmp_eq hx hb hd ht a b) hs kk
    · exact br_snd (fun h => h.tl.tl) (fun H locs cells slots ls ρ tgt ht _ a b => lv_icmp_ne hx hb hd ht a (fun z => b (fun n => n z))) hs kk
    · exact br_snd (fun h => h.tl.tl) (fun H locs cells slots ls ρ tgt ht _ a b => lv_icmp_lt hx hb hd ht a b) hs kk
    · exact br_snd (fun h => h.tl.tl) (fun H locs cells slots ls ρ tgt ht _ a b => lv_icmp_ge hx hb hd ht a b) hs kk
    · exact br_snd (fun h => h.tl.tl) (fun H locs cells slots ls ρ tgt ht _ a b => lv_icmp_gt hx hb hd ht a b) hs kk
    · exact br_snd (fun h => h.tl.tl) (fun H locs cells slots ls ρ tgt ht _ a b => lv_icmp_le hx hb hd ht a b) hs kk
  · cases hs
theorem sp_ifnull_T {H : Heap} {locs : List Loc} {cells slots : Nat} {ls : Array Slot} {ρ : Nat → Nat} {tgt a : Nat} {r : List Value} {off : Int} {cc : ByteArray} (hx : p.tables.exec = Jvm.exec) (hb : c.code = cc) (hd : decode cc pc = .ok (.ifnull off, 3)) (ht : (pc : Int) + off = (tgt : Int)) (k1 : a = 0 → W p l e R s m args below meth c H locs cells slots Q (F0 m tgt ls (r.map (tr ρ)))) (k2 : ¬ a = 0 → W p l e R s m args below meth c H locs cells slots Q (F0 m (pc + 3) ls (r.map (tr ρ)))) : W p l e R s m args below meth c H locs cells slots Q (F0 m pc ls ((Value.ref a :: r).map (tr ρ))) := by
  rw [List.map_cons]
  by_cases ha : a = 0
  · subst ha
    rw [tr_null]
    exact lv_ifnullN hx hb hd ht (k1 rfl)
  · rw [tr_ref ha]
    exact lv_ifnull hx hb hd (k2 ha)
theorem sp_ifnull (C : CX p l s m args meth c A D ca y b L xs) {off : Int} (hd : decode (mCode y) pc = .ok (.ifnull off, len)) (hs : stpR y (.ifnull off) len pc lo st h = some (.inl (pc', lo', st', h'))) (kk : WS p l e R s m args below meth c A D ca y b L xs B1 B2 Q ρ0 n0 pc' lo' st' h') : WS p l e R s m args below meth c A D ca y b L xs B1 B2 Q ρ0 n0 pc lo st h := by
  obtain ⟨hx, hb, -⟩ := id C
  simp only [stpR] at hs
  replace hs := gL_some hs
  obtain ⟨q, hs⟩ := hs
  obtain rfl := eq_of_beq q
  split at hs
  · refine br_snd VS.tl (fun H locs cells slots ls ρ tgt ht _ k1 k2 => ?_) hs kk
    exact sp_ifnull_T hx hb hd ht k1 k2
  · cases hs
theorem sp_ifnonnull_T {H : Heap} {locs : List Loc} {cells slots : Nat} {ls : Array Slot} {ρ : Nat → Nat} {tgt a : Nat} {r : List Value} {off : Int} {cc : ByteArray} (hx : p.tables.exec = Jvm.exec) (hb : c.code = cc) (hd : decode cc pc = .ok (.ifnonnull off, 3)) (ht : (pc : Int) + off = (tgt : Int)) (k1 : ¬ a = 0 → W p l e R s m args below meth c H locs cells slots Q (F0 m tgt ls (r.map (tr ρ)))) (k2 : ¬ ¬ a = 0 → W p l e R s m args below meth c H locs cells slots Q (F0 m (pc + 3) ls (r.map (tr ρ)))) : W p l e R s m args below meth c H locs cells slots Q (F0 m pc ls ((Value.ref a :: r).map (tr ρ))) := by
  rw [List.map_cons]
  by_cases ha : a = 0
  · subst ha
    rw [tr_null]
    exact lv_ifnonnullN hx hb hd (k2 (fun n => n rfl))
  · rw [tr_ref ha]
    exact lv_ifnonnull hx hb hd ht (k1 ha)
theorem sp_ifnonnull (C : CX p l s m args meth c A D ca y b L xs) {off : Int} (hd : decode (mCode y) pc = .ok (.ifnonnull off, len)) (hs : stpR y (.ifnonnull off) len pc lo st h = some (.inl (pc', lo', st', h'))) (kk : WS p l e R s m args below meth c A D ca y b L xs B1 B2 Q ρ0 n0 pc' lo' st' h') : WS p l e R s m args below meth c A D ca y b L xs B1 B2 Q ρ0 n0 pc lo st h := by
  obtain ⟨hx, hb, -⟩ := id C
  simp only [stpR] at hs
  replace hs := gL_some hs
  obtain ⟨q, hs⟩ := hs
  obtain rfl := eq_of_beq q
  split at hs
  · refine br_snd VS.tl (fun H locs cells slots ls ρ tgt ht _ k1 k2 => ?_) hs kk
    exact sp_ifnonnull_T hx hb hd ht k1 k2
  · cases hs
theorem sp_goto (C : CX p l s m args meth c A D ca y b L xs) {off : Int} (hd : decode (mCode y) pc = .ok (.goto off, len)) (hs : stpR y (.goto off) len pc lo st h = some (.inl (pc', lo', st', h'))) (kk : WS p l e R s m args below meth c A D ca y b L xs B1 B2 Q ρ0 n0 pc' lo' st' h') : WS p l e R s m args below meth c A D ca y b L xs B1 B2 Q ρ0 n0 pc lo st h := by
  obtain ⟨hx, hb, -⟩ := id C
  simp only [stpR] at hs
  replace hs := gL_some hs
  obtain ⟨q, hs⟩ := hs
  simp only [Bool.and_eq_true] at q
  obtain rfl := eq_of_beq q.1
  obtain ⟨rfl, rfl, rfl, rfl⟩ := go_some hs
  exact WS.same C id (fun H locs cells slots ls ρ _ _ k => lv_goto hx hb hd (jmp_ok q.2) k) kk
theorem sp_switch (C : CX p l s m args meth c A D ca y b L xs) {d lw hg : Int} {offs : Array Int} (hd : decode (mCode y) pc = .ok (.tableswitch d lw hg offs, len)) (hs : stpR y (.tableswitch d lw hg offs) len pc lo st h = some (.inl (pc', lo', st', h'))) (kk : WS p l e R s m args below meth c A D ca y b L xs B1 B2 Q ρ0 n0 pc' lo' st' h') : WS p l e R s m args below meth c A D ca y b L xs B1 B2 Q ρ0 n0 pc lo st h := by
  obtain ⟨hx, hb, -⟩ := id C
  simp only [stpR] at hs
  split at hs
  · split at hs
    · rename_i hc
      replace hs := gL_some hs
      obtain ⟨q, hs⟩ := hs
      obtain ⟨rfl, rfl, rfl, rfl⟩ := go_some hs
      exact WS.same C VS.tl (fun H locs cells slots ls ρ _ _ k => lv_tableOut hx hb hd hc (jmp_ok q) k) kk
    · rename_i hc
      split at hs
      · rename_i off ho
        replace hs := gL_some hs
        obtain ⟨q, hs⟩ := hs
        obtain ⟨rfl, rfl, rfl, rfl⟩ := go_some hs
        exact WS.same C VS.tl (fun H locs cells slots ls ρ _ _ k => lv_tableIn hx hb hd (fun z => hc (Or.inl z)) (fun z => hc (Or.inr z)) ho (jmp_ok q) k) kk
      · cases hs
  · cases hs
end SND2
