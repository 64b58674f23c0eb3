/-! ===== the words behind the tables ===== -/
def ALLW : List Cond := lw_tbl.filter goodWord
theorem allw_good {w : Cond} (h : w ∈ ALLW) : goodWord w = true := (List.mem_filter.mp h).2
theorem allw_tbl {w : Cond} (h : w ∈ ALLW) : w ∈ lw_tbl := (List.mem_filter.mp h).1
def ltb (n : Nat) : List Cond := match n with
  | 0 => k2_sels lw_privs
  | 1 => tables_1_1
  | 2 => tables_1_2
  | 3 => tables_1_3
  | 4 => tables_1_4
  | 5 => tables_1_5
  | 6 => tables_1_6
  | _ => tables_1_7
theorem ltb_in (n : Nat) {w : Cond} (h : w ∈ ltb n) : w ∈ lw_tbl := by
  unfold ltb at h
  unfold lw_tbl tables_1
  simp only [List.mem_append]
  split at h <;> simp [h]
/-- a word of the tables by its place: 1000 times the block and the place there -/
def tba (p : Nat) : Option Cond := (ltb (p / 1000))[p % 1000]?
theorem tba_in {p : Nat} {w : Cond} (h : tba p = some w) : w ∈ lw_tbl := ltb_in _ (List.mem_of_getElem? h)
theorem allw_at {w : Cond} (i : Nat) (h : tba i = some w) (g : goodWord w = true) : w ∈ ALLW := List.mem_filter.mpr ⟨tba_in h, g⟩
def clN (n : Nat) : String := match n with
  | 0 => RX0
  | 1 => RX1
  | 2 => RX2
  | 3 => RX3
  | 4 => RX4
  | 5 => RX5
  | 6 => RX6
  | 7 => RX7
  | 8 => RX8
  | 9 => RX9
  | 10 => RX10
  | 11 => RX11
  | _ => RX12
def clT (n : Nat) : u_T := match n with
  | 0 => TX0
  | 1 => TX1
  | 2 => TX2
  | 3 => TX3
  | 4 => TX4
  | 5 => TX5
  | 6 => TX6
  | 7 => TX7
  | 8 => TX8
  | 9 => TX9
  | 10 => TX10
  | 11 => TX11
  | _ => TX12
def clY (n : Nat) : Nat → FieldType := match n with
  | 0 => tyX0
  | 1 => tyX1
  | 2 => tyX2
  | 3 => tyX3
  | 4 => tyX4
  | 5 => tyX5
  | 6 => tyX6
  | 7 => tyX7
  | 8 => tyX8
  | 9 => tyX9
  | 10 => tyX10
  | 11 => tyX11
  | _ => tyX12
theorem cl_at : ∀ ci, ci < 13 → vwCl[ci]? = some (clN ci, clT ci, nfld ci)
  | 0, _ => rfl
  | 1, _ => rfl
  | 2, _ => rfl
  | 3, _ => rfl
  | 4, _ => rfl
  | 5, _ => rfl
  | 6, _ => rfl
  | 7, _ => rfl
  | 8, _ => rfl
  | 9, _ => rfl
  | 10, _ => rfl
  | 11, _ => rfl
  | 12, _ => rfl
  | n + 13, h => absurd h (by omega)
theorem cl_nm : ∀ ci, ci < 13 → ∀ a, a < nfld ci → ∀ b, b < nfld ci → a ≠ b → (clT ci a).2.1 ≠ (clT ci b).2.1
  | 0, _ => nmX0
  | 1, _ => nmX1
  | 2, _ => nmX2
  | 3, _ => nmX3
  | 4, _ => nmX4
  | 5, _ => nmX5
  | 6, _ => nmX6
  | 7, _ => nmX7
  | 8, _ => nmX8
  | 9, _ => nmX9
  | 10, _ => nmX10
  | 11, _ => nmX11
  | 12, _ => nmX12
  | n + 13, h => absurd h (by omega)
theorem cl_ty : ∀ ci, ci < 13 → ∀ k, k < nfld ci → parseFieldDescriptor (clT ci k).2.2.1 = some (clY ci k)
  | 0, _ => tyX0_ok
  | 1, _ => tyX1_ok
  | 2, _ => tyX2_ok
  | 3, _ => tyX3_ok
  | 4, _ => tyX4_ok
  | 5, _ => tyX5_ok
  | 6, _ => tyX6_ok
  | 7, _ => tyX7_ok
  | 8, _ => tyX8_ok
  | 9, _ => tyX9_ok
  | 10, _ => tyX10_ok
  | 11, _ => tyX11_ok
  | 12, _ => tyX12_ok
  | n + 13, h => absurd h (by omega)
set_option maxRecDepth 20000 in
theorem cl_in_0 : ∀ w ∈ u_ws RX0 TX0 6, w ∈ ALLW := fun w h => by
  have e : (u_ws RX0 TX0 6) = ([1207, 1209, 1211, 1213, 1215, 1217] : List Nat).filterMap tba := by decide +kernel
  have g : (u_ws RX0 TX0 6).all goodWord = true := by decide +kernel
  have h2 := h
  rw [e] at h2
  obtain ⟨i, -, hi⟩ := List.mem_filterMap.mp h2
  exact allw_at i hi (List.all_eq_true.mp g w h)
set_option maxRecDepth 20000 in
theorem cl_in_1 : ∀ w ∈ u_ws RX1 TX1 2, w ∈ ALLW := fun w h => by
  have e : (u_ws RX1 TX1 2) = ([1173, 1175] : List Nat).filterMap tba := by decide +kernel
  have g : (u_ws RX1 TX1 2).all goodWord = true := by decide +kernel
  have h2 := h
  rw [e] at h2
  obtain ⟨i, -, hi⟩ := List.mem_filterMap.mp h2
  exact allw_at i hi (List.all_eq_true.mp g w h)
set_option maxRecDepth 20000 in
theorem cl_in_2 : ∀ w ∈ u_ws RX2 TX2 10, w ∈ ALLW := fun w h => by
  have e : (u_ws RX2 TX2 10) = ([2086, 2088, 2090, 2092, 2094, 2096, 2098, 2100, 2102, 2104] : List Nat).filterMap tba := by decide +kernel
  have g : (u_ws RX2 TX2 10).all goodWord = true := by decide +kernel
  have h2 := h
  rw [e] at h2
  obtain ⟨i, -, hi⟩ := List.mem_filterMap.mp h2
  exact allw_at i hi (List.all_eq_true.mp g w h)
set_option maxRecDepth 20000 in
theorem cl_in_3 : ∀ w ∈ u_ws RX3 TX3 4, w ∈ ALLW := fun w h => by
  have e : (u_ws RX3 TX3 4) = ([5057, 5059, 5061, 5063] : List Nat).filterMap tba := by decide +kernel
  have g : (u_ws RX3 TX3 4).all goodWord = true := by decide +kernel
  have h2 := h
  rw [e] at h2
  obtain ⟨i, -, hi⟩ := List.mem_filterMap.mp h2
  exact allw_at i hi (List.all_eq_true.mp g w h)
set_option maxRecDepth 20000 in
theorem cl_in_4 : ∀ w ∈ u_ws RX4 TX4 5, w ∈ ALLW := fun w h => by
  have e : (u_ws RX4 TX4 5) = ([1227, 1229, 1231, 1233, 1235] : List Nat).filterMap tba := by decide +kernel
  have g : (u_ws RX4 TX4 5).all goodWord = true := by decide +kernel
  have h2 := h
  rw [e] at h2
  obtain ⟨i, -, hi⟩ := List.mem_filterMap.mp h2
  exact allw_at i hi (List.all_eq_true.mp g w h)
set_option maxRecDepth 20000 in
theorem cl_in_5 : ∀ w ∈ u_ws RX5 TX5 6, w ∈ ALLW := fun w h => by
  have e : (u_ws RX5 TX5 6) = ([2039, 2041, 2043, 2045, 2047, 2049] : List Nat).filterMap tba := by decide +kernel
  have g : (u_ws RX5 TX5 6).all goodWord = true := by decide +kernel
  have h2 := h
  rw [e] at h2
  obtain ⟨i, -, hi⟩ := List.mem_filterMap.mp h2
  exact allw_at i hi (List.all_eq_true.mp g w h)
set_option maxRecDepth 20000 in
theorem cl_in_6 : ∀ w ∈ u_ws RX6 TX6 4, w ∈ ALLW := fun w h => by
  have e : (u_ws RX6 TX6 4) = ([1156, 1158, 1160, 1162] : List Nat).filterMap tba := by decide +kernel
  have g : (u_ws RX6 TX6 4).all goodWord = true := by decide +kernel
  have h2 := h
  rw [e] at h2
  obtain ⟨i, -, hi⟩ := List.mem_filterMap.mp h2
  exact allw_at i hi (List.all_eq_true.mp g w h)
set_option maxRecDepth 20000 in
theorem cl_in_7 : ∀ w ∈ u_ws RX7 TX7 2, w ∈ ALLW := fun w h => by
  have e : (u_ws RX7 TX7 2) = ([2015, 2017] : List Nat).filterMap tba := by decide +kernel
  have g : (u_ws RX7 TX7 2).all goodWord = true := by decide +kernel
  have h2 := h
  rw [e] at h2
  obtain ⟨i, -, hi⟩ := List.mem_filterMap.mp h2
  exact allw_at i hi (List.all_eq_true.mp g w h)
set_option maxRecDepth 20000 in
theorem cl_in_8 : ∀ w ∈ u_ws RX8 TX8 14, w ∈ ALLW := fun w h => by
  have e : (u_ws RX8 TX8 14) = ([2146, 2148, 2150, 2152, 2154, 2156, 2158, 2160, 2162, 2164, 2166, 2168, 2170, 2172] : List Nat).filterMap tba := by decide +kernel
  have g : (u_ws RX8 TX8 14).all goodWord = true := by decide +kernel
  have h2 := h
  rw [e] at h2
  obtain ⟨i, -, hi⟩ := List.mem_filterMap.mp h2
  exact allw_at i hi (List.all_eq_true.mp g w h)
set_option maxRecDepth 20000 in
theorem cl_in_9 : ∀ w ∈ u_ws RX9 TX9 14, w ∈ ALLW := fun w h => by
  have e : (u_ws RX9 TX9 14) = ([1087, 1089, 1091, 1093, 1095, 1097, 1099, 1101, 1103, 1105, 1107, 1109, 1111, 1113] : List Nat).filterMap tba := by decide +kernel
  have g : (u_ws RX9 TX9 14).all goodWord = true := by decide +kernel
  have h2 := h
  rw [e] at h2
  obtain ⟨i, -, hi⟩ := List.mem_filterMap.mp h2
  exact allw_at i hi (List.all_eq_true.mp g w h)
set_option maxRecDepth 20000 in
theorem cl_in_10 : ∀ w ∈ u_ws RX10 TX10 7, w ∈ ALLW := fun w h => by
  have e : (u_ws RX10 TX10 7) = ([1129, 1131, 1133, 1135, 1137, 1139, 1141] : List Nat).filterMap tba := by decide +kernel
  have g : (u_ws RX10 TX10 7).all goodWord = true := by decide +kernel
  have h2 := h
  rw [e] at h2
  obtain ⟨i, -, hi⟩ := List.mem_filterMap.mp h2
  exact allw_at i hi (List.all_eq_true.mp g w h)
set_option maxRecDepth 20000 in
theorem cl_in_11 : ∀ w ∈ u_ws RX11 TX11 6, w ∈ ALLW := fun w h => by
  have e : (u_ws RX11 TX11 6) = ([2218, 2220, 2222, 2224, 2226, 2228] : List Nat).filterMap tba := by decide +kernel
  have g : (u_ws RX11 TX11 6).all goodWord = true := by decide +kernel
  have h2 := h
  rw [e] at h2
  obtain ⟨i, -, hi⟩ := List.mem_filterMap.mp h2
  exact allw_at i hi (List.all_eq_true.mp g w h)
set_option maxRecDepth 20000 in
theorem cl_in_12 : ∀ w ∈ u_ws RX12 TX12 51, w ∈ ALLW := fun w h => by
  have e : (u_ws RX12 TX12 51) = ([5233, 5235, 5237, 5239, 6001, 6003, 6005, 6007, 6009, 6011, 6013, 6015, 6017, 6019, 6021, 6023, 6025, 6027, 6029, 6031, 6033, 6035, 6037, 6039, 6041, 6043, 6045, 6047, 6049, 6051, 6053, 6055, 6057, 6059, 6061, 6063, 6065, 6067, 6069, 6071, 6073, 6075, 6077, 6079, 6081, 6083, 6085, 6087, 6089, 6091, 6093] : List Nat).filterMap tba := by decide +kernel
  have g : (u_ws RX12 TX12 51).all goodWord = true := by decide +kernel
  have h2 := h
  rw [e] at h2
  obtain ⟨i, -, hi⟩ := List.mem_filterMap.mp h2
  exact allw_at i hi (List.all_eq_true.mp g w h)
theorem cl_in : ∀ ci, ci < 13 → ∀ w ∈ u_ws (clN ci) (clT ci) (nfld ci), w ∈ ALLW
  | 0, _ => cl_in_0
  | 1, _ => cl_in_1
  | 2, _ => cl_in_2
  | 3, _ => cl_in_3
  | 4, _ => cl_in_4
  | 5, _ => cl_in_5
  | 6, _ => cl_in_6
  | 7, _ => cl_in_7
  | 8, _ => cl_in_8
  | 9, _ => cl_in_9
  | 10, _ => cl_in_10
  | 11, _ => cl_in_11
  | 12, _ => cl_in_12
  | n + 13, h => absurd h (by omega)
def isRT (t : FieldType) : Bool := match t with
  | .object _ => true
  | .array _ => true
  | _ => false
def fok (t : FieldType) (n : Nat) : Bool := (n == 0 && t == .int) || (n == 1 && t == .float) || (n == 2 && isRT t) || (n == 3 && t == .boolean)
set_option maxRecDepth 20000 in
theorem cl_f : ∀ ci, ci < 13 → ∀ k, k < nfld ci → fok (clY ci k) (ftyp ci k) = true ∧ (clT ci k).2.2.2 = ffin ci k ∧ (clT ci k).1 = clN ci := by decide +kernel
def fr_ck (q : Nat × Nat × Nat × Nat × Nat) : Bool := decide (q.2.2.1 < 13) && decide (q.2.2.2.1 < nfld q.2.2.1) && decide (tba (q.2.2.2.2) = some (.fieldLink (ownR q.1) q.2.1 (clN q.2.2.1) (clT q.2.2.1 q.2.2.2.1).2.1 (clT q.2.2.1 q.2.2.2.1).2.2.1))
set_option maxRecDepth 20000 in
theorem frT_0_ok : frT_0.all fr_ck = true := by decide +kernel
set_option maxRecDepth 20000 in
theorem frT_1_ok : frT_1.all fr_ck = true := by decide +kernel
set_option maxRecDepth 20000 in
theorem frT_2_ok : frT_2.all fr_ck = true := by decide +kernel
set_option maxRecDepth 20000 in
theorem frT_3_ok : frT_3.all fr_ck = true := by decide +kernel
theorem frT_ok (q : Nat × Nat × Nat × Nat × Nat) (h : q ∈ frT) : fr_ck q = true := ((List.mem_append.mp h).elim (fun h => List.all_eq_true.mp frT_0_ok q h) (fun h => ((List.mem_append.mp h).elim (fun h => List.all_eq_true.mp frT_1_ok q h) (fun h => ((List.mem_append.mp h).elim (fun h => List.all_eq_true.mp frT_2_ok q h) (fun h => (List.all_eq_true.mp frT_3_ok q h)))))))
theorem fres_ok {oc j ci k : Nat} (h : fres oc j = some (ci, k)) : ci < 13 ∧ k < nfld ci ∧ Cond.fieldLink (ownR oc) j (clN ci) (clT ci k).2.1 (clT ci k).2.2.1 ∈ ALLW := by
  unfold fres at h
  obtain ⟨q, hq, he⟩ := Option.map_eq_some_iff.mp h
  have hm := List.mem_of_find?_eq_some hq
  have hp := List.find?_some hq
  simp only [Bool.and_eq_true, beq_iff_eq] at hp
  have hc := frT_ok q hm
  simp only [fr_ck, Bool.and_eq_true, decide_eq_true_eq] at hc
  obtain ⟨o, i, c, n, ps⟩ := q
  simp only [Prod.mk.injEq] at he hp hc
  obtain ⟨rfl, rfl⟩ := he
  obtain ⟨rfl, rfl⟩ := hp
  exact ⟨hc.1.1, hc.1.2, allw_at ps hc.2 rfl⟩
def nr_ck (q : Nat × Nat × Nat × Nat × Nat × Nat) : Bool := decide (q.2.2.1 < 13) && decide (tba (q.2.2.2.1) = some (.classLink (ownR q.1) q.2.1 (clN q.2.2.1))) && decide (tba (q.2.2.2.2.1) = some (.instantiable (clN q.2.2.1) (nfld q.2.2.1))) && decide (tba (q.2.2.2.2.2) = some (.initialized (clN q.2.2.1)))
set_option maxRecDepth 20000 in
theorem nrT_ok : nrT.all nr_ck = true := by decide +kernel
theorem nres_ok {oc j ci : Nat} (h : nres oc j = some ci) : ci < 13 ∧ Cond.classLink (ownR oc) j (clN ci) ∈ ALLW ∧ Cond.instantiable (clN ci) (nfld ci) ∈ ALLW ∧ Cond.initialized (clN ci) ∈ ALLW := by
  unfold nres at h
  obtain ⟨q, hq, he⟩ := Option.map_eq_some_iff.mp h
  have hm := List.mem_of_find?_eq_some hq
  have hp := List.find?_some hq
  simp only [Bool.and_eq_true, beq_iff_eq] at hp
  have hc := List.all_eq_true.mp nrT_ok q hm
  simp only [nr_ck, Bool.and_eq_true, decide_eq_true_eq] at hc
  obtain ⟨o, i, c, a1, a2, a3⟩ := q
  simp only at he hp hc
  obtain ⟨rfl, rfl⟩ := hp
  subst he
  exact ⟨hc.1.1.1, allw_at a1 hc.1.1.2 rfl, allw_at a2 hc.1.2 rfl, allw_at a3 hc.2 rfl⟩
def ar_ck (q : Nat × Nat × Nat × Nat × Nat) : Bool := decide (q.2.2.1 < 5) && decide (tba (q.2.2.2.1) = some (.classLink (ownR q.1) q.2.1 (clN (acl q.2.2.1)))) && decide (tba (q.2.2.2.2) = some (.arrayOver (.object (clN (acl q.2.2.1)))))
set_option maxRecDepth 20000 in
theorem arT_ok : arT.all ar_ck = true := by decide +kernel
theorem ares_ok {oc j t : Nat} (h : ares oc j = some t) : t < 5 ∧ Cond.classLink (ownR oc) j (clN (acl t)) ∈ ALLW ∧ Cond.arrayOver (.object (clN (acl t))) ∈ lw_tbl := by
  unfold ares at h
  obtain ⟨q, hq, he⟩ := Option.map_eq_some_iff.mp h
  have hm := List.mem_of_find?_eq_some hq
  have hp := List.find?_some hq
  simp only [Bool.and_eq_true, beq_iff_eq] at hp
  have hc := List.all_eq_true.mp arT_ok q hm
  simp only [ar_ck, Bool.and_eq_true, decide_eq_true_eq] at hc
  obtain ⟨o, i, c, a1, a2⟩ := q
  simp only at he hp hc
  obtain ⟨rfl, rfl⟩ := hp
  subst he
  exact ⟨hc.1.1, allw_at a1 hc.1.2 rfl, tba_in hc.2⟩
theorem ao_in : ∀ t, t < 5 → Cond.arrayOver (.object (clN (acl t))) ∈ lw_tbl
  | 0, _ => tba_in (p := 1031) (by decide +kernel)
  | 1, _ => tba_in (p := 1039) (by decide +kernel)
  | 2, _ => tba_in (p := 1046) (by decide +kernel)
  | 3, _ => tba_in (p := 2055) (by decide +kernel)
  | 4, _ => tba_in (p := 1185) (by decide +kernel)
  | n + 5, h => absurd h (by omega)
def lr_w (q : Nat × Nat × Value × Nat) : Option Cond := match q.2.2.1 with
  | .float v => some (.constantFloat (ownR q.1) q.2.1 v)
  | .int v => some (.constant (ownR q.1) q.2.1 v)
  | _ => none
def lr_ck (q : Nat × Nat × Value × Nat) : Bool := (lr_w q).isSome && decide (tba (q.2.2.2) = lr_w q)
set_option maxRecDepth 20000 in
theorem lrT_ok : lrT.all lr_ck = true := by decide +kernel
theorem lres_ok {oc j : Nat} {v : Value} (h : lres oc j = some v) : (∃ x, v = .float x ∧ Cond.constantFloat (ownR oc) j x ∈ ALLW) ∨ (∃ x, v = .int x ∧ Cond.constant (ownR oc) j x ∈ ALLW) := by
  unfold lres at h
  obtain ⟨q, hq, he⟩ := Option.map_eq_some_iff.mp h
  have hm := List.mem_of_find?_eq_some hq
  have hp := List.find?_some hq
  simp only [Bool.and_eq_true, beq_iff_eq] at hp
  have hc := List.all_eq_true.mp lrT_ok q hm
  simp only [lr_ck, Bool.and_eq_true, decide_eq_true_eq] at hc
  obtain ⟨o, i, c, a1⟩ := q
  simp only at he hp hc
  obtain ⟨rfl, rfl⟩ := hp
  subst he
  cases c with
  | int x => exact Or.inr ⟨x, rfl, allw_at a1 hc.2 rfl⟩
  | float x => exact Or.inl ⟨x, rfl, allw_at a1 hc.2 rfl⟩
  | _ => simp [lr_w] at hc
/-- the word of a method's code -/
def cw (z : MI) : Cond := if (mHH z).isEmpty = true then .code (mNm z) (mCode z) (mML z) (mRet z) else .codeWith (mNm z) (mCode z) (mML z) (mRet z) (mHH z)
theorem cw_good (z : MI) : goodWord (cw z) = true := by
  unfold cw
  split <;> rfl
def mtd (z : MI) : Bool := plainName (mNm z).cls && decide ((mNm z).cls = ownR (mOwn z)) && decide ((mNm z).cls ≠ "java/lang/invoke/MethodHandle") && decide ((mNm z).cls ≠ "java/lang/invoke/VarHandle") && decide ((parseMethodDescriptor (mNm z).desc).map (fun d => d.parameters.length) = some (mNa z)) && decide (mML z ≤ 21) && (decide ((mNm z).name = "<init>") == mIni z)
theorem cwin_X0_init : cw mX0_init ∈ ALLW := allw_at 1189 (by rfl) (cw_good _)
theorem cwin_X0_start : cw mX0_start ∈ ALLW := allw_at 5025 (by rfl) (cw_good _)
theorem cwin_X0_isAnsweredAhead : cw mX0_isAnsweredAhead ∈ ALLW := allw_at 3029 (by rfl) (cw_good _)
theorem cwin_X0_fitsBetween : cw mX0_fitsBetween ∈ ALLW := allw_at 3033 (by rfl) (cw_good _)
theorem cwin_X1_init : cw mX1_init ∈ ALLW := allw_at 1169 (by rfl) (cw_good _)
theorem cwin_X1_letPropose : cw mX1_letPropose ∈ ALLW := allw_at 5104 (by rfl) (cw_good _)
theorem cwin_X1_hear : cw mX1_hear ∈ ALLW := allw_at 4148 (by rfl) (cw_good _)
theorem cwin_X1_hearPrepare : cw mX1_hearPrepare ∈ ALLW := allw_at 4152 (by rfl) (cw_good _)
theorem cwin_X1_hearPromised : cw mX1_hearPromised ∈ ALLW := allw_at 4157 (by rfl) (cw_good _)
theorem cwin_X1_sendAccepts : cw mX1_sendAccepts ∈ ALLW := allw_at 4166 (by rfl) (cw_good _)
theorem cwin_X1_hearAccept : cw mX1_hearAccept ∈ ALLW := allw_at 4174 (by rfl) (cw_good _)
theorem cwin_X1_hearAccepted : cw mX1_hearAccepted ∈ ALLW := allw_at 4178 (by rfl) (cw_good _)
theorem cwin_X2_init : cw mX2_init ∈ ALLW := allw_at 2059 (by rfl) (cw_good _)
theorem cwin_X2_renew : cw mX2_renew ∈ ALLW := allw_at 2207 (by rfl) (cw_good _)
theorem cwin_X2_dropProposal : cw mX2_dropProposal ∈ ALLW := allw_at 2211 (by rfl) (cw_good _)
theorem cwin_X2_nextBallot : cw mX2_nextBallot ∈ ALLW := allw_at 5108 (by rfl) (cw_good _)
theorem cwin_X2_startProposal : cw mX2_startProposal ∈ ALLW := allw_at 5112 (by rfl) (cw_good _)
theorem cwin_X2_learnTold : cw mX2_learnTold ∈ ALLW := allw_at 4161 (by rfl) (cw_good _)
theorem cwin_X2_takeOn : cw mX2_takeOn ∈ ALLW := allw_at 4170 (by rfl) (cw_good _)
theorem cwin_X3_init : cw mX3_init ∈ ALLW := allw_at 5042 (by rfl) (cw_good _)
theorem cwin_X3_isLike : cw mX3_isLike ∈ ALLW := allw_at 3058 (by rfl) (cw_good _)
theorem cwin_X3_outdoes : cw mX3_outdoes ∈ ALLW := allw_at 5037 (by rfl) (cw_good _)
theorem cwin_X4_init : cw mX4_init ∈ ALLW := allw_at 1182 (by rfl) (cw_good _)
theorem cwin_X4_renew : cw mX4_renew ∈ ALLW := allw_at 2191 (by rfl) (cw_good _)
theorem cwin_X4_goOn : cw mX4_goOn ∈ ALLW := allw_at 3166 (by rfl) (cw_good _)
theorem cwin_X4_isFull : cw mX4_isFull ∈ ALLW := allw_at 5016 (by rfl) (cw_good _)
theorem cwin_X4_at : cw mX4_at ∈ ALLW := allw_at 5169 (by rfl) (cw_good _)
theorem cwin_X4_findWrite : cw mX4_findWrite ∈ ALLW := allw_at 5007 (by rfl) (cw_good _)
theorem cwin_X4_addWrite : cw mX4_addWrite ∈ ALLW := allw_at 5021 (by rfl) (cw_good _)
theorem cwin_X4_addRead : cw mX4_addRead ∈ ALLW := allw_at 5087 (by rfl) (cw_good _)
theorem cwin_X4_answerWrites : cw mX4_answerWrites ∈ ALLW := allw_at 4182 (by rfl) (cw_good _)
theorem cwin_X4_hasOneOrder : cw mX4_hasOneOrder ∈ ALLW := allw_at 3018 (by rfl) (cw_good _)
theorem cwin_X4_canFeed : cw mX4_canFeed ∈ ALLW := allw_at 3021 (by rfl) (cw_good _)
theorem cwin_X4_writesDueAhead : cw mX4_writesDueAhead ∈ ALLW := allw_at 3025 (by rfl) (cw_good _)
theorem cwin_X4_writesAheadOf : cw mX4_writesAheadOf ∈ ALLW := allw_at 3038 (by rfl) (cw_good _)
theorem cwin_X5_init : cw mX5_init ∈ ALLW := allw_at 2024 (by rfl) (cw_good _)
theorem cwin_X5_start : cw mX5_start ∈ ALLW := allw_at 4083 (by rfl) (cw_good _)
theorem cwin_X5_learnSame : cw mX5_learnSame ∈ ALLW := allw_at 4115 (by rfl) (cw_good _)
theorem cwin_X5_learnClock : cw mX5_learnClock ∈ ALLW := allw_at 4128 (by rfl) (cw_good _)
theorem cwin_X5_knowing : cw mX5_knowing ∈ ALLW := allw_at 4123 (by rfl) (cw_good _)
theorem cwin_X5_clockOf : cw mX5_clockOf ∈ ALLW := allw_at 4136 (by rfl) (cw_good _)
theorem cwin_X5_answeredSince : cw mX5_answeredSince ∈ ALLW := allw_at 4144 (by rfl) (cw_good _)
theorem cwin_X5_hasAnswered : cw mX5_hasAnswered ∈ ALLW := allw_at 4140 (by rfl) (cw_good _)
theorem cwin_X6_init : cw mX6_init ∈ ALLW := allw_at 1148 (by rfl) (cw_good _)
theorem cwin_X6_renew : cw mX6_renew ∈ ALLW := allw_at 2186 (by rfl) (cw_good _)
theorem cwin_X6_letStand : cw mX6_letStand ∈ ALLW := allw_at 4218 (by rfl) (cw_good _)
theorem cwin_X6_letBeat : cw mX6_letBeat ∈ ALLW := allw_at 4230 (by rfl) (cw_good _)
theorem cwin_X6_hear : cw mX6_hear ∈ ALLW := allw_at 4029 (by rfl) (cw_good _)
theorem cwin_X6_hearAsk : cw mX6_hearAsk ∈ ALLW := allw_at 4037 (by rfl) (cw_good _)
theorem cwin_X6_hearVote : cw mX6_hearVote ∈ ALLW := allw_at 4065 (by rfl) (cw_good _)
theorem cwin_X6_hearAppend : cw mX6_hearAppend ∈ ALLW := allw_at 4087 (by rfl) (cw_good _)
theorem cwin_X6_putEntries : cw mX6_putEntries ∈ ALLW := allw_at 4098 (by rfl) (cw_good _)
theorem cwin_X6_sendAck : cw mX6_sendAck ∈ ALLW := allw_at 4091 (by rfl) (cw_good _)
theorem cwin_X6_hearAck : cw mX6_hearAck ∈ ALLW := allw_at 4111 (by rfl) (cw_good _)
theorem cwin_X6_commitWhatMostKnow : cw mX6_commitWhatMostKnow ∈ ALLW := allw_at 4119 (by rfl) (cw_good _)
theorem cwin_X6_renewLease : cw mX6_renewLease ∈ ALLW := allw_at 4132 (by rfl) (cw_good _)
theorem cwin_X7_init : cw mX7_init ∈ ALLW := allw_at 2007 (by rfl) (cw_good _)
theorem cwin_X7_isFull : cw mX7_isFull ∈ ALLW := allw_at 5012 (by rfl) (cw_good _)
theorem cwin_X7_at : cw mX7_at ∈ ALLW := allw_at 4053 (by rfl) (cw_good _)
theorem cwin_X7_termAt : cw mX7_termAt ∈ ALLW := allw_at 4049 (by rfl) (cw_good _)
theorem cwin_X7_put : cw mX7_put ∈ ALLW := allw_at 4103 (by rfl) (cw_good _)
theorem cwin_X7_cutBehind : cw mX7_cutBehind ∈ ALLW := allw_at 2199 (by rfl) (cw_good _)
theorem cwin_X7_numberOf : cw mX7_numberOf ∈ ALLW := allw_at 4186 (by rfl) (cw_good _)
theorem cwin_X7_hasSerial : cw mX7_hasSerial ∈ ALLW := allw_at 5029 (by rfl) (cw_good _)
theorem cwin_X7_valueUpTo : cw mX7_valueUpTo ∈ ALLW := allw_at 5083 (by rfl) (cw_good _)
theorem cwin_X7_isLikeUpTo : cw mX7_isLikeUpTo ∈ ALLW := allw_at 3053 (by rfl) (cw_good _)
theorem cwin_X7_isOutdone : cw mX7_isOutdone ∈ ALLW := allw_at 5033 (by rfl) (cw_good _)
theorem cwin_X8_init : cw mX8_init ∈ ALLW := allw_at 2001 (by rfl) (cw_good _)
theorem cwin_X8_renew : cw mX8_renew ∈ ALLW := allw_at 2195 (by rfl) (cw_good _)
theorem cwin_X8_crash : cw mX8_crash ∈ ALLW := allw_at 3170 (by rfl) (cw_good _)
theorem cwin_X8_rise : cw mX8_rise ∈ ALLW := allw_at 3175 (by rfl) (cw_good _)
theorem cwin_X8_letPass : cw mX8_letPass ∈ ALLW := allw_at 3227 (by rfl) (cw_good _)
theorem cwin_X8_follow : cw mX8_follow ∈ ALLW := allw_at 2203 (by rfl) (cw_good _)
theorem cwin_X8_learnTerm : cw mX8_learnTerm ∈ ALLW := allw_at 4033 (by rfl) (cw_good _)
theorem cwin_X8_promise : cw mX8_promise ∈ ALLW := allw_at 3179 (by rfl) (cw_good _)
theorem cwin_X8_hasPromised : cw mX8_hasPromised ∈ ALLW := allw_at 4045 (by rfl) (cw_good _)
theorem cwin_X8_holdsLease : cw mX8_holdsLease ∈ ALLW := allw_at 3006 (by rfl) (cw_good _)
theorem cwin_X8_agreedInItsTerm : cw mX8_agreedInItsTerm ∈ ALLW := allw_at 5078 (by rfl) (cw_good _)
theorem cwin_X8_canVoteFor : cw mX8_canVoteFor ∈ ALLW := allw_at 4041 (by rfl) (cw_good _)
theorem cwin_X8_agreesWith : cw mX8_agreesWith ∈ ALLW := allw_at 3046 (by rfl) (cw_good _)
theorem cwin_X9_init : cw mX9_init ∈ ALLW := allw_at 1043 (by rfl) (cw_good _)
theorem cwin_X9_start : cw mX9_start ∈ ALLW := allw_at 4061 (by rfl) (cw_good _)
theorem cwin_X9_copyRest : cw mX9_copyRest ∈ ALLW := allw_at 4205 (by rfl) (cw_good _)
theorem cwin_X9_addEntriesBehind : cw mX9_addEntriesBehind ∈ ALLW := allw_at 4234 (by rfl) (cw_good _)
theorem cwin_X10_init : cw mX10_init ∈ ALLW := allw_at 1036 (by rfl) (cw_good _)
theorem cwin_X10_renew : cw mX10_renew ∈ ALLW := allw_at 2182 (by rfl) (cw_good _)
theorem cwin_X10_most : cw mX10_most ∈ ALLW := allw_at 4079 (by rfl) (cw_good _)
theorem cwin_X10_areMost : cw mX10_areMost ∈ ALLW := allw_at 4069 (by rfl) (cw_good _)
theorem cwin_X10_at : cw mX10_at ∈ ALLW := allw_at 4003 (by rfl) (cw_good _)
theorem cwin_X10_send : cw mX10_send ∈ ALLW := allw_at 4057 (by rfl) (cw_good _)
theorem cwin_X10_takeOut : cw mX10_takeOut ∈ ALLW := allw_at 4025 (by rfl) (cw_good _)
theorem cwin_X10_isCut : cw mX10_isCut ∈ ALLW := allw_at 3195 (by rfl) (cw_good _)
theorem cwin_X10_switchCut : cw mX10_switchCut ∈ ALLW := allw_at 3191 (by rfl) (cw_good _)
theorem cwin_X11_init : cw mX11_init ∈ ALLW := allw_at 1026 (by rfl) (cw_good _)
theorem cwin_X11_begin : cw mX11_begin ∈ ALLW := allw_at 3066 (by rfl) (cw_good _)
theorem cwin_X11_toggle : cw mX11_toggle ∈ ALLW := allw_at 3142 (by rfl) (cw_good _)
theorem cwin_X11_cut : cw mX11_cut ∈ ALLW := allw_at 3186 (by rfl) (cw_good _)
theorem cwin_X11_rate : cw mX11_rate ∈ ALLW := allw_at 3202 (by rfl) (cw_good _)
theorem cwin_X11_spans : cw mX11_spans ∈ ALLW := allw_at 3214 (by rfl) (cw_good _)
theorem cwin_X11_pass : cw mX11_pass ∈ ALLW := allw_at 3223 (by rfl) (cw_good _)
theorem cwin_X11_deliver : cw mX11_deliver ∈ ALLW := allw_at 3235 (by rfl) (cw_good _)
theorem cwin_X11_lose : cw mX11_lose ∈ ALLW := allw_at 4193 (by rfl) (cw_good _)
theorem cwin_X11_twice : cw mX11_twice ∈ ALLW := allw_at 4200 (by rfl) (cw_good _)
theorem cwin_X11_stand : cw mX11_stand ∈ ALLW := allw_at 4212 (by rfl) (cw_good _)
theorem cwin_X11_beat : cw mX11_beat ∈ ALLW := allw_at 4225 (by rfl) (cw_good _)
theorem cwin_X11_request : cw mX11_request ∈ ALLW := allw_at 5002 (by rfl) (cw_good _)
theorem cwin_X11_read : cw mX11_read ∈ ALLW := allw_at 5074 (by rfl) (cw_good _)
theorem cwin_X11_propose : cw mX11_propose ∈ ALLW := allw_at 5094 (by rfl) (cw_good _)
theorem cwin_X11_steps : cw mX11_steps ∈ ALLW := allw_at 2234 (by rfl) (cw_good _)
theorem cwin_X11_messages : cw mX11_messages ∈ ALLW := allw_at 2238 (by rfl) (cw_good _)
theorem cwin_X11_message : cw mX11_message ∈ ALLW := allw_at 5119 (by rfl) (cw_good _)
theorem cwin_X11_of : cw mX11_of ∈ ALLW := allw_at 5127 (by rfl) (cw_good _)
theorem cwin_X11_entry : cw mX11_entry ∈ ALLW := allw_at 5134 (by rfl) (cw_good _)
theorem cwin_X11_clock : cw mX11_clock ∈ ALLW := allw_at 5143 (by rfl) (cw_good _)
theorem cwin_X11_lease : cw mX11_lease ∈ ALLW := allw_at 5150 (by rfl) (cw_good _)
theorem cwin_X11_leases : cw mX11_leases ∈ ALLW := allw_at 3002 (by rfl) (cw_good _)
theorem cwin_X11_decision : cw mX11_decision ∈ ALLW := allw_at 5158 (by rfl) (cw_good _)
theorem cwin_X11_acts : cw mX11_acts ∈ ALLW := allw_at 3010 (by rfl) (cw_good _)
theorem cwin_X11_act : cw mX11_act ∈ ALLW := allw_at 5165 (by rfl) (cw_good _)
theorem cwin_X11_isInOrder : cw mX11_isInOrder ∈ ALLW := allw_at 3014 (by rfl) (cw_good _)
theorem cwin_X11_isAgreed : cw mX11_isAgreed ∈ ALLW := allw_at 3042 (by rfl) (cw_good _)
theorem cwin_X11_renew : cw mX11_renew ∈ ALLW := allw_at 2178 (by rfl) (cw_good _)
theorem cwin_X11_needMachine : cw mX11_needMachine ∈ ALLW := allw_at 3146 (by rfl) (cw_good _)
theorem cwin_X11_needChoice : cw mX11_needChoice ∈ ALLW := allw_at 5098 (by rfl) (cw_good _)
theorem cwin_X11_needRange : cw mX11_needRange ∈ ALLW := allw_at 3205 (by rfl) (cw_good _)
theorem cwin_X11_needMessage : cw mX11_needMessage ∈ ALLW := allw_at 3239 (by rfl) (cw_good _)
theorem cwin_X12_init : cw mX12_init ∈ ALLW := allw_at 5175 (by rfl) (cw_good _)
theorem cwin_X12_thrown : cw mX12_thrown ∈ ALLW := allw_at 6099 (by rfl) (cw_good _)
theorem cwin_X12_in : cw mX12_in ∈ ALLW := allw_at 6118 (by rfl) (cw_good _)
theorem cwin_X12_goes : cw mX12_goes ∈ ALLW := allw_at 6107 (by rfl) (cw_good _)
theorem cwin_X12_isMachine : cw mX12_isMachine ∈ ALLW := allw_at 6115 (by rfl) (cw_good _)
theorem cwin_X12_most : cw mX12_most ∈ ALLW := allw_at 6195 (by rfl) (cw_good _)
theorem cwin_X12_bits : cw mX12_bits ∈ ALLW := allw_at 6191 (by rfl) (cw_good _)
theorem cwin_X12_begins : cw mX12_begins ∈ ALLW := allw_at 5181 (by rfl) (cw_good _)
theorem cwin_X12_begin : cw mX12_begin ∈ ALLW := allw_at 6103 (by rfl) (cw_good _)
theorem cwin_X12_ends : cw mX12_ends ∈ ALLW := allw_at 6126 (by rfl) (cw_good _)
theorem cwin_X12_isAgreedAt : cw mX12_isAgreedAt ∈ ALLW := allw_at 6130 (by rfl) (cw_good _)
theorem cwin_X12_follows : cw mX12_follows ∈ ALLW := allw_at 6122 (by rfl) (cw_good _)
theorem cwin_X12_toggle : cw mX12_toggle ∈ ALLW := allw_at 6111 (by rfl) (cw_good _)
theorem cwin_X12_cut : cw mX12_cut ∈ ALLW := allw_at 6134 (by rfl) (cw_good _)
theorem cwin_X12_rate : cw mX12_rate ∈ ALLW := allw_at 6138 (by rfl) (cw_good _)
theorem cwin_X12_spans : cw mX12_spans ∈ ALLW := allw_at 6143 (by rfl) (cw_good _)
theorem cwin_X12_pass : cw mX12_pass ∈ ALLW := allw_at 6148 (by rfl) (cw_good _)
theorem cwin_X12_sends : cw mX12_sends ∈ ALLW := allw_at 6184 (by rfl) (cw_good _)
theorem cwin_X12_leaves : cw mX12_leaves ∈ ALLW := allw_at 6160 (by rfl) (cw_good _)
theorem cwin_X12_isMessage : cw mX12_isMessage ∈ ALLW := allw_at 6156 (by rfl) (cw_good _)
theorem cwin_X12_lose : cw mX12_lose ∈ ALLW := allw_at 6152 (by rfl) (cw_good _)
theorem cwin_X12_twice : cw mX12_twice ∈ ALLW := allw_at 6164 (by rfl) (cw_good _)
theorem cwin_X12_deliver : cw mX12_deliver ∈ ALLW := allw_at 6168 (by rfl) (cw_good _)
theorem cwin_X12_termAt : cw mX12_termAt ∈ ALLW := allw_at 6176 (by rfl) (cw_good _)
theorem cwin_X12_promises : cw mX12_promises ∈ ALLW := allw_at 6180 (by rfl) (cw_good _)
theorem cwin_X12_stand : cw mX12_stand ∈ ALLW := allw_at 6235 (by rfl) (cw_good _)
theorem cwin_X12_asked : cw mX12_asked ∈ ALLW := allw_at 6172 (by rfl) (cw_good _)
theorem cwin_X12_voted : cw mX12_voted ∈ ALLW := allw_at 6188 (by rfl) (cw_good _)
theorem cwin_X12_beat : cw mX12_beat ∈ ALLW := allw_at 6239 (by rfl) (cw_good _)
theorem cwin_X12_acks : cw mX12_acks ∈ ALLW := allw_at 6203 (by rfl) (cw_good _)
theorem cwin_X12_appended : cw mX12_appended ∈ ALLW := allw_at 6199 (by rfl) (cw_good _)
theorem cwin_X12_rankedSame : cw mX12_rankedSame ∈ ALLW := allw_at 6211 (by rfl) (cw_good _)
theorem cwin_X12_acknowledged : cw mX12_acknowledged ∈ ALLW := allw_at 6207 (by rfl) (cw_good _)
theorem cwin_X12_leases : cw mX12_leases ∈ ALLW := allw_at 6215 (by rfl) (cw_good _)
theorem cwin_X12_actOf : cw mX12_actOf ∈ ALLW := allw_at 7007 (by rfl) (cw_good _)
theorem cwin_X12_acts : cw mX12_acts ∈ ALLW := allw_at 7011 (by rfl) (cw_good _)
theorem cwin_X12_entryOf : cw mX12_entryOf ∈ ALLW := allw_at 7015 (by rfl) (cw_good _)
theorem cwin_X12_request : cw mX12_request ∈ ALLW := allw_at 7003 (by rfl) (cw_good _)
theorem cwin_X12_valueOf : cw mX12_valueOf ∈ ALLW := allw_at 7027 (by rfl) (cw_good _)
theorem cwin_X12_holdsLease : cw mX12_holdsLease ∈ ALLW := allw_at 7023 (by rfl) (cw_good _)
theorem cwin_X12_read : cw mX12_read ∈ ALLW := allw_at 7019 (by rfl) (cw_good _)
theorem cwin_X12_propose : cw mX12_propose ∈ ALLW := allw_at 7031 (by rfl) (cw_good _)
theorem cwin_X12_prepared : cw mX12_prepared ∈ ALLW := allw_at 6219 (by rfl) (cw_good _)
theorem cwin_X12_promised : cw mX12_promised ∈ ALLW := allw_at 6223 (by rfl) (cw_good _)
theorem cwin_X12_accepted : cw mX12_accepted ∈ ALLW := allw_at 6227 (by rfl) (cw_good _)
theorem cwin_X12_counts : cw mX12_counts ∈ ALLW := allw_at 6231 (by rfl) (cw_good _)
theorem cwin_X12_steps : cw mX12_steps ∈ ALLW := allw_at 7035 (by rfl) (cw_good _)
theorem cwin_X12_messages : cw mX12_messages ∈ ALLW := allw_at 7039 (by rfl) (cw_good _)
theorem cwin_X12_message : cw mX12_message ∈ ALLW := allw_at 7043 (by rfl) (cw_good _)
theorem cwin_X12_of : cw mX12_of ∈ ALLW := allw_at 7047 (by rfl) (cw_good _)
theorem cwin_X12_entry : cw mX12_entry ∈ ALLW := allw_at 7051 (by rfl) (cw_good _)
theorem cwin_X12_clock : cw mX12_clock ∈ ALLW := allw_at 7055 (by rfl) (cw_good _)
theorem cwin_X12_lease : cw mX12_lease ∈ ALLW := allw_at 7059 (by rfl) (cw_good _)
theorem cwin_X12_leases_ : cw mX12_leases_ ∈ ALLW := allw_at 7064 (by rfl) (cw_good _)
theorem cwin_X12_decision : cw mX12_decision ∈ ALLW := allw_at 7068 (by rfl) (cw_good _)
theorem cwin_X12_acts_ : cw mX12_acts_ ∈ ALLW := allw_at 7072 (by rfl) (cw_good _)
theorem cwin_X12_act : cw mX12_act ∈ ALLW := allw_at 7076 (by rfl) (cw_good _)
theorem cwin_X12_mayCome : cw mX12_mayCome ∈ ALLW := allw_at 7084 (by rfl) (cw_good _)
theorem cwin_X12_isInOrder : cw mX12_isInOrder ∈ ALLW := allw_at 7080 (by rfl) (cw_good _)
theorem cwin_X12_areAlike : cw mX12_areAlike ∈ ALLW := allw_at 7092 (by rfl) (cw_good _)
theorem cwin_X12_isAgreed : cw mX12_isAgreed ∈ ALLW := allw_at 7088 (by rfl) (cw_good _)
theorem cwin_J6_bitCount_0f7a4 : cw mJ6_bitCount_0f7a4 ∈ ALLW := allw_at 4072 (by rfl) (cw_good _)
theorem cwin_L_begin : cw mL_begin ∈ ALLW := allw_at 3061 (by rfl) (cw_good _)
theorem cwin_L_toggle : cw mL_toggle ∈ ALLW := allw_at 3137 (by rfl) (cw_good _)
theorem cwin_L_cut : cw mL_cut ∈ ALLW := allw_at 3182 (by rfl) (cw_good _)
theorem cwin_L_rate : cw mL_rate ∈ ALLW := allw_at 3198 (by rfl) (cw_good _)
theorem cwin_L_spans : cw mL_spans ∈ ALLW := allw_at 3210 (by rfl) (cw_good _)
theorem cwin_L_pass : cw mL_pass ∈ ALLW := allw_at 3219 (by rfl) (cw_good _)
theorem cwin_L_deliver : cw mL_deliver ∈ ALLW := allw_at 3230 (by rfl) (cw_good _)
theorem cwin_L_lose : cw mL_lose ∈ ALLW := allw_at 4189 (by rfl) (cw_good _)
theorem cwin_L_twice : cw mL_twice ∈ ALLW := allw_at 4196 (by rfl) (cw_good _)
theorem cwin_L_stand : cw mL_stand ∈ ALLW := allw_at 4208 (by rfl) (cw_good _)
theorem cwin_L_beat : cw mL_beat ∈ ALLW := allw_at 4221 (by rfl) (cw_good _)
theorem cwin_L_request : cw mL_request ∈ ALLW := allw_at 4238 (by rfl) (cw_good _)
theorem cwin_L_read : cw mL_read ∈ ALLW := allw_at 5070 (by rfl) (cw_good _)
theorem cwin_L_propose : cw mL_propose ∈ ALLW := allw_at 5090 (by rfl) (cw_good _)
theorem cwin_L_message : cw mL_message ∈ ALLW := allw_at 5115 (by rfl) (cw_good _)
theorem cwin_L_of : cw mL_of ∈ ALLW := allw_at 5123 (by rfl) (cw_good _)
theorem cwin_L_entry : cw mL_entry ∈ ALLW := allw_at 5130 (by rfl) (cw_good _)
theorem cwin_L_clock : cw mL_clock ∈ ALLW := allw_at 5139 (by rfl) (cw_good _)
theorem cwin_L_lease : cw mL_lease ∈ ALLW := allw_at 5146 (by rfl) (cw_good _)
theorem cwin_L_decision : cw mL_decision ∈ ALLW := allw_at 5154 (by rfl) (cw_good _)
theorem cwin_L_act : cw mL_act ∈ ALLW := allw_at 5161 (by rfl) (cw_good _)
def cr_ck (q : Nat × Nat × Nat × MI × Nat × List Nat) : Bool := match q with
  | (oc, j, 0, z, a, [b1, b2, b3, b4]) => mtd z && decide (mOwn z < 13) && (mHH z).isEmpty && decide (tba (a) = some (.methodLink (ownR oc) j (mNm z))) && decide (tba (b2) = some (.initialized (mNm z).cls)) && decide (tba (b3) = some (.instanceMethod (mNm z))) && decide (tba (b4) = some (.selects (mNm z).cls (mNm z) (mNm z)))
  | (oc, j, 1, z, a, [b1, b2, b3]) => mtd z && decide (tba (a) = some (.methodLink (ownR oc) j (mNm z))) && decide (tba (b2) = some (.initialized (mNm z).cls)) && decide (tba (b3) = some (.static (mNm z)))
  | (oc, j, 2, z, a, [b1, b2, b3]) => mtd z && mIni z && (mRet z).isNone && (mHH z).isEmpty && decide (tba (a) = some (.methodLink (ownR oc) j (mNm z))) && decide (tba (b2) = some (.initialized (mNm z).cls)) && decide (tba (b3) = some (.instanceMethod (mNm z)))
  | (oc, j, 3, z, a, [b1, b2, b3]) => mtd z && mIni z && (mRet z).isNone && (mHH z).isEmpty && decide (tba (a) = some (.methodLinkNest (ownR oc) j (mNm z) RX11)) && decide (tba (b2) = some (.initialized (mNm z).cls)) && decide (tba (b3) = some (.instanceMethod (mNm z)))
  | (oc, j, 4, _, a, []) => decide (tba (a) = some (.methodLink (ownR oc) j objectInit))
  | (oc, j, 5, _, a, []) => decide (tba (a) = some (.methodLink (ownR oc) j Lib.Math.max.name))
  | (oc, j, 6, _, a, []) => decide (tba (a) = some (.methodLink (ownR oc) j Lib.Math.min.name))
  | _ => false
theorem crT_0_cw : ∀ q ∈ crT_0, 4 ≤ q.2.2.1 ∨ cw q.2.2.2.1 ∈ ALLW := List.forall_mem_cons.mpr ⟨Or.inl (by decide), List.forall_mem_cons.mpr ⟨Or.inr cwin_X0_isAnsweredAhead, List.forall_mem_cons.mpr ⟨Or.inl (by decide), List.forall_mem_cons.mpr ⟨Or.inr cwin_X2_nextBallot, List.forall_mem_cons.mpr ⟨Or.inr cwin_X2_startProposal, List.forall_mem_cons.mpr ⟨Or.inr cwin_X10_send, List.forall_mem_cons.mpr ⟨Or.inr cwin_X1_hearPrepare, List.forall_mem_cons.mpr ⟨Or.inr cwin_X1_hearPromised, List.forall_mem_cons.mpr ⟨Or.inr cwin_X1_hearAccept, List.forall_mem_cons.mpr ⟨Or.inr cwin_X1_hearAccepted, List.forall_mem_cons.mpr ⟨Or.inr cwin_X2_learnTold, List.forall_mem_cons.mpr ⟨Or.inr cwin_X10_areMost, fun _ h => absurd h List.not_mem_nil⟩⟩⟩⟩⟩⟩⟩⟩⟩⟩⟩⟩
theorem crT_1_cw : ∀ q ∈ crT_1, 4 ≤ q.2.2.1 ∨ cw q.2.2.2.1 ∈ ALLW := List.forall_mem_cons.mpr ⟨Or.inr cwin_X1_sendAccepts, List.forall_mem_cons.mpr ⟨Or.inr cwin_X2_takeOn, List.forall_mem_cons.mpr ⟨Or.inl (by decide), List.forall_mem_cons.mpr ⟨Or.inr cwin_X2_dropProposal, List.forall_mem_cons.mpr ⟨Or.inl (by decide), List.forall_mem_cons.mpr ⟨Or.inl (by decide), List.forall_mem_cons.mpr ⟨Or.inr cwin_X0_init, List.forall_mem_cons.mpr ⟨Or.inr cwin_X0_start, List.forall_mem_cons.mpr ⟨Or.inr cwin_X7_numberOf, List.forall_mem_cons.mpr ⟨Or.inr cwin_X4_canFeed, List.forall_mem_cons.mpr ⟨Or.inr cwin_X4_writesDueAhead, List.forall_mem_cons.mpr ⟨Or.inr cwin_X0_fitsBetween, fun _ h => absurd h List.not_mem_nil⟩⟩⟩⟩⟩⟩⟩⟩⟩⟩⟩⟩
theorem crT_2_cw : ∀ q ∈ crT_2, 4 ≤ q.2.2.1 ∨ cw q.2.2.2.1 ∈ ALLW := List.forall_mem_cons.mpr ⟨Or.inr cwin_X4_writesAheadOf, List.forall_mem_cons.mpr ⟨Or.inr cwin_X0_isAnsweredAhead, List.forall_mem_cons.mpr ⟨Or.inl (by decide), List.forall_mem_cons.mpr ⟨Or.inr cwin_X5_hasAnswered, List.forall_mem_cons.mpr ⟨Or.inr cwin_X5_answeredSince, List.forall_mem_cons.mpr ⟨Or.inl (by decide), List.forall_mem_cons.mpr ⟨Or.inr cwin_X10_send, List.forall_mem_cons.mpr ⟨Or.inr cwin_X7_termAt, List.forall_mem_cons.mpr ⟨Or.inr cwin_X9_addEntriesBehind, List.forall_mem_cons.mpr ⟨Or.inr cwin_X8_learnTerm, List.forall_mem_cons.mpr ⟨Or.inr cwin_X6_hearAsk, List.forall_mem_cons.mpr ⟨Or.inr cwin_X6_hearVote, fun _ h => absurd h List.not_mem_nil⟩⟩⟩⟩⟩⟩⟩⟩⟩⟩⟩⟩
theorem crT_3_cw : ∀ q ∈ crT_3, 4 ≤ q.2.2.1 ∨ cw q.2.2.2.1 ∈ ALLW := List.forall_mem_cons.mpr ⟨Or.inr cwin_X6_hearAppend, List.forall_mem_cons.mpr ⟨Or.inr cwin_X6_hearAck, List.forall_mem_cons.mpr ⟨Or.inr cwin_X8_canVoteFor, List.forall_mem_cons.mpr ⟨Or.inr cwin_X10_areMost, List.forall_mem_cons.mpr ⟨Or.inr cwin_X5_start, List.forall_mem_cons.mpr ⟨Or.inr cwin_X6_sendAck, List.forall_mem_cons.mpr ⟨Or.inr cwin_X8_follow, List.forall_mem_cons.mpr ⟨Or.inl (by decide), List.forall_mem_cons.mpr ⟨Or.inr cwin_X6_putEntries, List.forall_mem_cons.mpr ⟨Or.inl (by decide), List.forall_mem_cons.mpr ⟨Or.inr cwin_X8_promise, List.forall_mem_cons.mpr ⟨Or.inr cwin_X7_cutBehind, fun _ h => absurd h List.not_mem_nil⟩⟩⟩⟩⟩⟩⟩⟩⟩⟩⟩⟩
theorem crT_4_cw : ∀ q ∈ crT_4, 4 ≤ q.2.2.1 ∨ cw q.2.2.2.1 ∈ ALLW := List.forall_mem_cons.mpr ⟨Or.inr cwin_X7_put, List.forall_mem_cons.mpr ⟨Or.inr cwin_X5_learnSame, List.forall_mem_cons.mpr ⟨Or.inr cwin_X6_commitWhatMostKnow, List.forall_mem_cons.mpr ⟨Or.inr cwin_X5_learnClock, List.forall_mem_cons.mpr ⟨Or.inr cwin_X6_renewLease, List.forall_mem_cons.mpr ⟨Or.inr cwin_X5_knowing, List.forall_mem_cons.mpr ⟨Or.inr cwin_X10_most, List.forall_mem_cons.mpr ⟨Or.inr cwin_X5_clockOf, List.forall_mem_cons.mpr ⟨Or.inl (by decide), List.forall_mem_cons.mpr ⟨Or.inr cwin_X7_at, List.forall_mem_cons.mpr ⟨Or.inr cwin_X7_isOutdone, List.forall_mem_cons.mpr ⟨Or.inl (by decide), fun _ h => absurd h List.not_mem_nil⟩⟩⟩⟩⟩⟩⟩⟩⟩⟩⟩⟩
theorem crT_5_cw : ∀ q ∈ crT_5, 4 ≤ q.2.2.1 ∨ cw q.2.2.2.1 ∈ ALLW := List.forall_mem_cons.mpr ⟨Or.inr cwin_X3_isLike, List.forall_mem_cons.mpr ⟨Or.inr cwin_X3_outdoes, List.forall_mem_cons.mpr ⟨Or.inl (by decide), List.forall_mem_cons.mpr ⟨Or.inr cwin_X7_init, List.forall_mem_cons.mpr ⟨Or.inr cwin_X5_init, List.forall_mem_cons.mpr ⟨Or.inr cwin_X2_init, List.forall_mem_cons.mpr ⟨Or.inr cwin_X7_cutBehind, List.forall_mem_cons.mpr ⟨Or.inr cwin_X8_follow, List.forall_mem_cons.mpr ⟨Or.inr cwin_X2_renew, List.forall_mem_cons.mpr ⟨Or.inr cwin_X2_dropProposal, List.forall_mem_cons.mpr ⟨Or.inr cwin_X8_promise, List.forall_mem_cons.mpr ⟨Or.inr cwin_X7_termAt, fun _ h => absurd h List.not_mem_nil⟩⟩⟩⟩⟩⟩⟩⟩⟩⟩⟩⟩
theorem crT_6_cw : ∀ q ∈ crT_6, 4 ≤ q.2.2.1 ∨ cw q.2.2.2.1 ∈ ALLW := List.forall_mem_cons.mpr ⟨Or.inr cwin_X8_hasPromised, List.forall_mem_cons.mpr ⟨Or.inl (by decide), List.forall_mem_cons.mpr ⟨Or.inr cwin_X7_isLikeUpTo, List.forall_mem_cons.mpr ⟨Or.inl (by decide), List.forall_mem_cons.mpr ⟨Or.inr cwin_X7_at, List.forall_mem_cons.mpr ⟨Or.inl (by decide), List.forall_mem_cons.mpr ⟨Or.inr cwin_X9_init, List.forall_mem_cons.mpr ⟨Or.inr cwin_J6_bitCount_0f7a4, List.forall_mem_cons.mpr ⟨Or.inr cwin_X10_most, List.forall_mem_cons.mpr ⟨Or.inr cwin_X9_start, List.forall_mem_cons.mpr ⟨Or.inr cwin_X10_isCut, List.forall_mem_cons.mpr ⟨Or.inl (by decide), fun _ h => absurd h List.not_mem_nil⟩⟩⟩⟩⟩⟩⟩⟩⟩⟩⟩⟩
theorem crT_7_cw : ∀ q ∈ crT_7, 4 ≤ q.2.2.1 ∨ cw q.2.2.2.1 ∈ ALLW := List.forall_mem_cons.mpr ⟨Or.inr cwin_X10_init, List.forall_mem_cons.mpr ⟨Or.inr cwin_X6_init, List.forall_mem_cons.mpr ⟨Or.inr cwin_X1_init, List.forall_mem_cons.mpr ⟨Or.inr cwin_X4_init, List.forall_mem_cons.mpr ⟨Or.inr cwin_X8_init, List.forall_mem_cons.mpr ⟨Or.inr cwin_X11_renew, List.forall_mem_cons.mpr ⟨Or.inr cwin_X11_needMachine, List.forall_mem_cons.mpr ⟨Or.inr cwin_X4_goOn, List.forall_mem_cons.mpr ⟨Or.inr cwin_X8_crash, List.forall_mem_cons.mpr ⟨Or.inr cwin_X8_rise, List.forall_mem_cons.mpr ⟨Or.inr cwin_X10_switchCut, List.forall_mem_cons.mpr ⟨Or.inr cwin_X11_needRange, fun _ h => absurd h List.not_mem_nil⟩⟩⟩⟩⟩⟩⟩⟩⟩⟩⟩⟩
theorem crT_8_cw : ∀ q ∈ crT_8, 4 ≤ q.2.2.1 ∨ cw q.2.2.2.1 ∈ ALLW := List.forall_mem_cons.mpr ⟨Or.inr cwin_X8_letPass, List.forall_mem_cons.mpr ⟨Or.inr cwin_X11_needMessage, List.forall_mem_cons.mpr ⟨Or.inr cwin_X10_isCut, List.forall_mem_cons.mpr ⟨Or.inr cwin_X10_takeOut, List.forall_mem_cons.mpr ⟨Or.inr cwin_X6_hear, List.forall_mem_cons.mpr ⟨Or.inr cwin_X1_hear, List.forall_mem_cons.mpr ⟨Or.inr cwin_X4_answerWrites, List.forall_mem_cons.mpr ⟨Or.inr cwin_X10_send, List.forall_mem_cons.mpr ⟨Or.inr cwin_X9_copyRest, List.forall_mem_cons.mpr ⟨Or.inr cwin_X8_hasPromised, List.forall_mem_cons.mpr ⟨Or.inr cwin_X6_letStand, List.forall_mem_cons.mpr ⟨Or.inr cwin_X6_letBeat, fun _ h => absurd h List.not_mem_nil⟩⟩⟩⟩⟩⟩⟩⟩⟩⟩⟩⟩
theorem crT_9_cw : ∀ q ∈ crT_9, 4 ≤ q.2.2.1 ∨ cw q.2.2.2.1 ∈ ALLW := List.forall_mem_cons.mpr ⟨Or.inr cwin_X4_findWrite, List.forall_mem_cons.mpr ⟨Or.inr cwin_X7_isFull, List.forall_mem_cons.mpr ⟨Or.inr cwin_X4_isFull, List.forall_mem_cons.mpr ⟨Or.inr cwin_X4_addWrite, List.forall_mem_cons.mpr ⟨Or.inr cwin_X7_hasSerial, List.forall_mem_cons.mpr ⟨Or.inr cwin_X3_init, List.forall_mem_cons.mpr ⟨Or.inr cwin_X7_put, List.forall_mem_cons.mpr ⟨Or.inr cwin_X7_numberOf, List.forall_mem_cons.mpr ⟨Or.inr cwin_X8_holdsLease, List.forall_mem_cons.mpr ⟨Or.inr cwin_X8_agreedInItsTerm, List.forall_mem_cons.mpr ⟨Or.inr cwin_X7_valueUpTo, List.forall_mem_cons.mpr ⟨Or.inr cwin_X4_addRead, fun _ h => absurd h List.not_mem_nil⟩⟩⟩⟩⟩⟩⟩⟩⟩⟩⟩⟩
theorem crT_10_cw : ∀ q ∈ crT_10, 4 ≤ q.2.2.1 ∨ cw q.2.2.2.1 ∈ ALLW := List.forall_mem_cons.mpr ⟨Or.inr cwin_X11_needChoice, List.forall_mem_cons.mpr ⟨Or.inr cwin_X1_letPropose, List.forall_mem_cons.mpr ⟨Or.inr cwin_X7_at, List.forall_mem_cons.mpr ⟨Or.inr cwin_X4_at, List.forall_mem_cons.mpr ⟨Or.inr cwin_X4_hasOneOrder, List.forall_mem_cons.mpr ⟨Or.inr cwin_X8_agreesWith, List.forall_mem_cons.mpr ⟨Or.inr cwin_X10_renew, List.forall_mem_cons.mpr ⟨Or.inr cwin_X6_renew, List.forall_mem_cons.mpr ⟨Or.inr cwin_X4_renew, List.forall_mem_cons.mpr ⟨Or.inr cwin_X8_renew, List.forall_mem_cons.mpr ⟨Or.inr cwin_X10_at, List.forall_mem_cons.mpr ⟨Or.inl (by decide), fun _ h => absurd h List.not_mem_nil⟩⟩⟩⟩⟩⟩⟩⟩⟩⟩⟩⟩
theorem crT_11_cw : ∀ q ∈ crT_11, 4 ≤ q.2.2.1 ∨ cw q.2.2.2.1 ∈ ALLW := List.forall_mem_cons.mpr ⟨Or.inr cwin_X12_begins, List.forall_mem_cons.mpr ⟨Or.inr cwin_X12_in, List.forall_mem_cons.mpr ⟨Or.inr cwin_X12_goes, List.forall_mem_cons.mpr ⟨Or.inr cwin_X12_isAgreedAt, List.forall_mem_cons.mpr ⟨Or.inr cwin_X12_isMachine, List.forall_mem_cons.mpr ⟨Or.inr cwin_X12_follows, List.forall_mem_cons.mpr ⟨Or.inr cwin_X12_ends, List.forall_mem_cons.mpr ⟨Or.inr cwin_X12_isMessage, List.forall_mem_cons.mpr ⟨Or.inr cwin_X12_leaves, List.forall_mem_cons.mpr ⟨Or.inr cwin_X12_asked, List.forall_mem_cons.mpr ⟨Or.inr cwin_X12_voted, List.forall_mem_cons.mpr ⟨Or.inr cwin_X12_appended, fun _ h => absurd h List.not_mem_nil⟩⟩⟩⟩⟩⟩⟩⟩⟩⟩⟩⟩
theorem crT_12_cw : ∀ q ∈ crT_12, 4 ≤ q.2.2.1 ∨ cw q.2.2.2.1 ∈ ALLW := List.forall_mem_cons.mpr ⟨Or.inr cwin_X12_acknowledged, List.forall_mem_cons.mpr ⟨Or.inr cwin_X12_prepared, List.forall_mem_cons.mpr ⟨Or.inr cwin_X12_promised, List.forall_mem_cons.mpr ⟨Or.inr cwin_X12_accepted, List.forall_mem_cons.mpr ⟨Or.inr cwin_X12_counts, List.forall_mem_cons.mpr ⟨Or.inr cwin_X12_promises, List.forall_mem_cons.mpr ⟨Or.inr cwin_X12_sends, List.forall_mem_cons.mpr ⟨Or.inr cwin_X12_termAt, List.forall_mem_cons.mpr ⟨Or.inr cwin_X12_bits, List.forall_mem_cons.mpr ⟨Or.inr cwin_X12_most, List.forall_mem_cons.mpr ⟨Or.inr cwin_X12_acks, List.forall_mem_cons.mpr ⟨Or.inr cwin_X12_rankedSame, fun _ h => absurd h List.not_mem_nil⟩⟩⟩⟩⟩⟩⟩⟩⟩⟩⟩⟩
theorem crT_13_cw : ∀ q ∈ crT_13, 4 ≤ q.2.2.1 ∨ cw q.2.2.2.1 ∈ ALLW := List.forall_mem_cons.mpr ⟨Or.inr cwin_X12_leases, List.forall_mem_cons.mpr ⟨Or.inr cwin_X12_actOf, List.forall_mem_cons.mpr ⟨Or.inr cwin_X12_acts, List.forall_mem_cons.mpr ⟨Or.inr cwin_X12_entryOf, List.forall_mem_cons.mpr ⟨Or.inr cwin_X12_holdsLease, List.forall_mem_cons.mpr ⟨Or.inr cwin_X12_valueOf, List.forall_mem_cons.mpr ⟨Or.inr cwin_X12_mayCome, List.forall_mem_cons.mpr ⟨Or.inr cwin_X12_areAlike, List.forall_mem_cons.mpr ⟨Or.inr cwin_X11_begin, List.forall_mem_cons.mpr ⟨Or.inr cwin_X11_toggle, List.forall_mem_cons.mpr ⟨Or.inr cwin_X11_cut, List.forall_mem_cons.mpr ⟨Or.inr cwin_X11_rate, fun _ h => absurd h List.not_mem_nil⟩⟩⟩⟩⟩⟩⟩⟩⟩⟩⟩⟩
theorem crT_14_cw : ∀ q ∈ crT_14, 4 ≤ q.2.2.1 ∨ cw q.2.2.2.1 ∈ ALLW := List.forall_mem_cons.mpr ⟨Or.inr cwin_X11_spans, List.forall_mem_cons.mpr ⟨Or.inr cwin_X11_pass, List.forall_mem_cons.mpr ⟨Or.inr cwin_X11_deliver, List.forall_mem_cons.mpr ⟨Or.inr cwin_X11_lose, List.forall_mem_cons.mpr ⟨Or.inr cwin_X11_twice, List.forall_mem_cons.mpr ⟨Or.inr cwin_X11_stand, List.forall_mem_cons.mpr ⟨Or.inr cwin_X11_beat, List.forall_mem_cons.mpr ⟨Or.inr cwin_X11_request, List.forall_mem_cons.mpr ⟨Or.inr cwin_X11_read, List.forall_mem_cons.mpr ⟨Or.inr cwin_X11_propose, List.forall_mem_cons.mpr ⟨Or.inr cwin_X11_message, List.forall_mem_cons.mpr ⟨Or.inr cwin_X11_of, fun _ h => absurd h List.not_mem_nil⟩⟩⟩⟩⟩⟩⟩⟩⟩⟩⟩⟩
theorem crT_15_cw : ∀ q ∈ crT_15, 4 ≤ q.2.2.1 ∨ cw q.2.2.2.1 ∈ ALLW := List.forall_mem_cons.mpr ⟨Or.inr cwin_X11_entry, List.forall_mem_cons.mpr ⟨Or.inr cwin_X11_clock, List.forall_mem_cons.mpr ⟨Or.inr cwin_X11_lease, List.forall_mem_cons.mpr ⟨Or.inr cwin_X11_decision, List.forall_mem_cons.mpr ⟨Or.inr cwin_X11_act, List.forall_mem_cons.mpr ⟨Or.inr cwin_X11_init, List.forall_mem_cons.mpr ⟨Or.inr cwin_X12_init, List.forall_mem_cons.mpr ⟨Or.inr cwin_L_begin, List.forall_mem_cons.mpr ⟨Or.inr cwin_X12_begin, List.forall_mem_cons.mpr ⟨Or.inr cwin_X12_thrown, List.forall_mem_cons.mpr ⟨Or.inr cwin_L_toggle, List.forall_mem_cons.mpr ⟨Or.inr cwin_X12_toggle, fun _ h => absurd h List.not_mem_nil⟩⟩⟩⟩⟩⟩⟩⟩⟩⟩⟩⟩
theorem crT_16_cw : ∀ q ∈ crT_16, 4 ≤ q.2.2.1 ∨ cw q.2.2.2.1 ∈ ALLW := List.forall_mem_cons.mpr ⟨Or.inr cwin_L_cut, List.forall_mem_cons.mpr ⟨Or.inr cwin_X12_cut, List.forall_mem_cons.mpr ⟨Or.inr cwin_L_rate, List.forall_mem_cons.mpr ⟨Or.inr cwin_X12_rate, List.forall_mem_cons.mpr ⟨Or.inr cwin_L_spans, List.forall_mem_cons.mpr ⟨Or.inr cwin_X12_spans, List.forall_mem_cons.mpr ⟨Or.inr cwin_L_pass, List.forall_mem_cons.mpr ⟨Or.inr cwin_X12_pass, List.forall_mem_cons.mpr ⟨Or.inr cwin_L_deliver, List.forall_mem_cons.mpr ⟨Or.inr cwin_X12_deliver, List.forall_mem_cons.mpr ⟨Or.inr cwin_L_lose, List.forall_mem_cons.mpr ⟨Or.inr cwin_X12_lose, fun _ h => absurd h List.not_mem_nil⟩⟩⟩⟩⟩⟩⟩⟩⟩⟩⟩⟩
theorem crT_17_cw : ∀ q ∈ crT_17, 4 ≤ q.2.2.1 ∨ cw q.2.2.2.1 ∈ ALLW := List.forall_mem_cons.mpr ⟨Or.inr cwin_L_twice, List.forall_mem_cons.mpr ⟨Or.inr cwin_X12_twice, List.forall_mem_cons.mpr ⟨Or.inr cwin_L_stand, List.forall_mem_cons.mpr ⟨Or.inr cwin_X12_stand, List.forall_mem_cons.mpr ⟨Or.inr cwin_L_beat, List.forall_mem_cons.mpr ⟨Or.inr cwin_X12_beat, List.forall_mem_cons.mpr ⟨Or.inr cwin_L_request, List.forall_mem_cons.mpr ⟨Or.inr cwin_X12_request, List.forall_mem_cons.mpr ⟨Or.inr cwin_L_read, List.forall_mem_cons.mpr ⟨Or.inr cwin_X12_read, List.forall_mem_cons.mpr ⟨Or.inr cwin_L_propose, List.forall_mem_cons.mpr ⟨Or.inr cwin_X12_propose, fun _ h => absurd h List.not_mem_nil⟩⟩⟩⟩⟩⟩⟩⟩⟩⟩⟩⟩
theorem crT_18_cw : ∀ q ∈ crT_18, 4 ≤ q.2.2.1 ∨ cw q.2.2.2.1 ∈ ALLW := List.forall_mem_cons.mpr ⟨Or.inr cwin_X11_steps, List.forall_mem_cons.mpr ⟨Or.inr cwin_X12_steps, List.forall_mem_cons.mpr ⟨Or.inr cwin_X11_messages, List.forall_mem_cons.mpr ⟨Or.inr cwin_X12_messages, List.forall_mem_cons.mpr ⟨Or.inr cwin_L_message, List.forall_mem_cons.mpr ⟨Or.inr cwin_X12_message, List.forall_mem_cons.mpr ⟨Or.inr cwin_L_of, List.forall_mem_cons.mpr ⟨Or.inr cwin_X12_of, List.forall_mem_cons.mpr ⟨Or.inr cwin_L_entry, List.forall_mem_cons.mpr ⟨Or.inr cwin_X12_entry, List.forall_mem_cons.mpr ⟨Or.inr cwin_L_clock, List.forall_mem_cons.mpr ⟨Or.inr cwin_X12_clock, fun _ h => absurd h List.not_mem_nil⟩⟩⟩⟩⟩⟩⟩⟩⟩⟩⟩⟩
theorem crT_19_cw : ∀ q ∈ crT_19, 4 ≤ q.2.2.1 ∨ cw q.2.2.2.1 ∈ ALLW := List.forall_mem_cons.mpr ⟨Or.inr cwin_L_lease, List.forall_mem_cons.mpr ⟨Or.inr cwin_X12_lease, List.forall_mem_cons.mpr ⟨Or.inr cwin_X11_leases, List.forall_mem_cons.mpr ⟨Or.inr cwin_X12_leases_, List.forall_mem_cons.mpr ⟨Or.inr cwin_L_decision, List.forall_mem_cons.mpr ⟨Or.inr cwin_X12_decision, List.forall_mem_cons.mpr ⟨Or.inr cwin_X11_acts, List.forall_mem_cons.mpr ⟨Or.inr cwin_X12_acts_, List.forall_mem_cons.mpr ⟨Or.inr cwin_L_act, List.forall_mem_cons.mpr ⟨Or.inr cwin_X12_act, List.forall_mem_cons.mpr ⟨Or.inr cwin_X11_isInOrder, List.forall_mem_cons.mpr ⟨Or.inr cwin_X12_isInOrder, fun _ h => absurd h List.not_mem_nil⟩⟩⟩⟩⟩⟩⟩⟩⟩⟩⟩⟩
theorem crT_20_cw : ∀ q ∈ crT_20, 4 ≤ q.2.2.1 ∨ cw q.2.2.2.1 ∈ ALLW := List.forall_mem_cons.mpr ⟨Or.inr cwin_X11_isAgreed, List.forall_mem_cons.mpr ⟨Or.inr cwin_X12_isAgreed, fun _ h => absurd h List.not_mem_nil⟩⟩
set_option maxRecDepth 20000 in
theorem crT_0_ok : crT_0.all cr_ck = true := by decide +kernel
set_option maxRecDepth 20000 in
theorem crT_1_ok : crT_1.all cr_ck = true := by decide +kernel
set_option maxRecDepth 20000 in
theorem crT_2_ok : crT_2.all cr_ck = true := by decide +kernel
set_option maxRecDepth 20000 in
theorem crT_3_ok : crT_3.all cr_ck = true := by decide +kernel
set_option maxRecDepth 20000 in
theorem crT_4_ok : crT_4.all cr_ck = true := by decide +kernel
set_option maxRecDepth 20000 in
theorem crT_5_ok : crT_5.all cr_ck = true := by decide +kernel
set_option maxRecDepth 20000 in
theorem crT_6_ok : crT_6.all cr_ck = true := by decide +kernel
set_option maxRecDepth 20000 in
theorem crT_7_ok : crT_7.all cr_ck = true := by decide +kernel
set_option maxRecDepth 20000 in
theorem crT_8_ok : crT_8.all cr_ck = true := by decide +kernel
set_option maxRecDepth 20000 in
theorem crT_9_ok : crT_9.all cr_ck = true := by decide +kernel
set_option maxRecDepth 20000 in
theorem crT_10_ok : crT_10.all cr_ck = true := by decide +kernel
set_option maxRecDepth 20000 in
theorem crT_11_ok : crT_11.all cr_ck = true := by decide +kernel
set_option maxRecDepth 20000 in
theorem crT_12_ok : crT_12.all cr_ck = true := by decide +kernel
set_option maxRecDepth 20000 in
theorem crT_13_ok : crT_13.all cr_ck = true := by decide +kernel
set_option maxRecDepth 20000 in
theorem crT_14_ok : crT_14.all cr_ck = true := by decide +kernel
set_option maxRecDepth 20000 in
theorem crT_15_ok : crT_15.all cr_ck = true := by decide +kernel
set_option maxRecDepth 20000 in
theorem crT_16_ok : crT_16.all cr_ck = true := by decide +kernel
set_option maxRecDepth 20000 in
theorem crT_17_ok : crT_17.all cr_ck = true := by decide +kernel
set_option maxRecDepth 20000 in
theorem crT_18_ok : crT_18.all cr_ck = true := by decide +kernel
set_option maxRecDepth 20000 in
theorem crT_19_ok : crT_19.all cr_ck = true := by decide +kernel
set_option maxRecDepth 20000 in
theorem crT_20_ok : crT_20.all cr_ck = true := by decide +kernel
theorem crT_ok (q : Nat × Nat × Nat × MI × Nat × List Nat) (h : q ∈ crT) : cr_ck q = true := ((List.mem_append.mp h).elim (fun h => List.all_eq_true.mp crT_0_ok q h) (fun h => ((List.mem_append.mp h).elim (fun h => List.all_eq_true.mp crT_1_ok q h) (fun h => ((List.mem_append.mp h).elim (fun h => List.all_eq_true.mp crT_2_ok q h) (fun h => ((List.mem_append.mp h).elim (fun h => List.all_eq_true.mp crT_3_ok q h) (fun h => ((List.mem_append.mp h).elim (fun h => List.all_eq_true.mp crT_4_ok q h) (fun h => ((List.mem_append.mp h).elim (fun h => List.all_eq_true.mp crT_5_ok q h) (fun h => ((List.mem_append.mp h).elim (fun h => List.all_eq_true.mp crT_6_ok q h) (fun h => ((List.mem_append.mp h).elim (fun h => List.all_eq_true.mp crT_7_ok q h) (fun h => ((List.mem_append.mp h).elim (fun h => List.all_eq_true.mp crT_8_ok q h) (fun h => ((List.mem_append.mp h).elim (fun h => List.all_eq_true.mp crT_9_ok q h) (fun h => ((List.mem_append.mp h).elim (fun h => List.all_eq_true.mp crT_10_ok q h) (fun h => ((List.mem_append.mp h).elim (fun h => List.all_eq_true.mp crT_11_ok q h) (fun h => ((List.mem_append.mp h).elim (fun h => List.all_eq_true.mp crT_12_ok q h) (fun h => ((List.mem_append.mp h).elim (fun h => List.all_eq_true.mp crT_13_ok q h) (fun h => ((List.mem_append.mp h).elim (fun h => List.all_eq_true.mp crT_14_ok q h) (fun h => ((List.mem_append.mp h).elim (fun h => List.all_eq_true.mp crT_15_ok q h) (fun h => ((List.mem_append.mp h).elim (fun h => List.all_eq_true.mp crT_16_ok q h) (fun h => ((List.mem_append.mp h).elim (fun h => List.all_eq_true.mp crT_17_ok q h) (fun h => ((List.mem_append.mp h).elim (fun h => List.all_eq_true.mp crT_18_ok q h) (fun h => ((List.mem_append.mp h).elim (fun h => List.all_eq_true.mp crT_19_ok q h) (fun h => (List.all_eq_true.mp crT_20_ok q h)))))))))))))))))))))))))))))))))))))))))
theorem crT_cw (q : Nat × Nat × Nat × MI × Nat × List Nat) (h : q ∈ crT) : 4 ≤ q.2.2.1 ∨ cw q.2.2.2.1 ∈ ALLW := ((List.mem_append.mp h).elim (fun h => crT_0_cw q h) (fun h => ((List.mem_append.mp h).elim (fun h => crT_1_cw q h) (fun h => ((List.mem_append.mp h).elim (fun h => crT_2_cw q h) (fun h => ((List.mem_append.mp h).elim (fun h => crT_3_cw q h) (fun h => ((List.mem_append.mp h).elim (fun h => crT_4_cw q h) (fun h => ((List.mem_append.mp h).elim (fun h => crT_5_cw q h) (fun h => ((List.mem_append.mp h).elim (fun h => crT_6_cw q h) (fun h => ((List.mem_append.mp h).elim (fun h => crT_7_cw q h) (fun h => ((List.mem_append.mp h).elim (fun h => crT_8_cw q h) (fun h => ((List.mem_append.mp h).elim (fun h => crT_9_cw q h) (fun h => ((List.mem_append.mp h).elim (fun h => crT_10_cw q h) (fun h => ((List.mem_append.mp h).elim (fun h => crT_11_cw q h) (fun h => ((List.mem_append.mp h).elim (fun h => crT_12_cw q h) (fun h => ((List.mem_append.mp h).elim (fun h => crT_13_cw q h) (fun h => ((List.mem_append.mp h).elim (fun h => crT_14_cw q h) (fun h => ((List.mem_append.mp h).elim (fun h => crT_15_cw q h) (fun h => ((List.mem_append.mp h).elim (fun h => crT_16_cw q h) (fun h => ((List.mem_append.mp h).elim (fun h => crT_17_cw q h) (fun h => ((List.mem_append.mp h).elim (fun h => crT_18_cw q h) (fun h => ((List.mem_append.mp h).elim (fun h => crT_19_cw q h) (fun h => (crT_20_cw q h)))))))))))))))))))))))))))))))))))))))))
theorem cres_in {oc j n : Nat} {z : MI} (h : cres oc j = some (n, z)) : ∃ (a : Nat) (bs : List Nat), cr_ck (oc, j, n, z, a, bs) = true ∧ (4 ≤ n ∨ cw z ∈ ALLW) := by
  unfold cres at h
  obtain ⟨q, hq, he⟩ := Option.map_eq_some_iff.mp h
  have hm := List.mem_of_find?_eq_some hq
  have hp := List.find?_some hq
  simp only [Bool.and_eq_true, beq_iff_eq] at hp
  have hc := crT_ok q hm
  have hw := crT_cw q hm
  obtain ⟨o, i, c, z1, a, bs⟩ := q
  simp only [Prod.mk.injEq] at he hp
  obtain ⟨rfl, rfl⟩ := he
  obtain ⟨rfl, rfl⟩ := hp
  exact ⟨a, bs, hc, hw⟩
def mtdP (z : MI) : Prop := plainName (mNm z).cls = true ∧ (mNm z).cls = ownR (mOwn z) ∧ (mNm z).cls ≠ "java/lang/invoke/MethodHandle" ∧ (mNm z).cls ≠ "java/lang/invoke/VarHandle" ∧ (parseMethodDescriptor (mNm z).desc).map (fun d => d.parameters.length) = some (mNa z) ∧ mML z ≤ 21 ∧ (mIni z = true → (mNm z).name = "<init>") ∧ cw z ∈ ALLW ∧ Cond.initialized (mNm z).cls ∈ ALLW
theorem mtd_of {z : MI} (h : mtd z = true) (h1 : cw z ∈ ALLW) (h2 : Cond.initialized (mNm z).cls ∈ ALLW) : mtdP z := by
  simp only [mtd, Bool.and_eq_true, decide_eq_true_eq, beq_iff_eq] at h
  obtain ⟨⟨⟨⟨⟨⟨a1, a2⟩, a3⟩, a4⟩, a5⟩, a6⟩, a7⟩ := h
  exact ⟨a1, a2, a3, a4, a5, a6, fun q => of_decide_eq_true (a7.trans q), h1, h2⟩
theorem cres_0 {oc j : Nat} {z : MI} (h : cres oc j = some (0, z)) : mtdP z ∧ mOwn z < 13 ∧ mHH z = [] ∧ Cond.methodLink (ownR oc) j (mNm z) ∈ ALLW ∧ Cond.instanceMethod (mNm z) ∈ ALLW ∧ Cond.selects (mNm z).cls (mNm z) (mNm z) ∈ ALLW := by
  obtain ⟨a, bs, hc, hw⟩ := cres_in h
  unfold cr_ck at hc
  split at hc <;> first | (rename_i e; simp only [Prod.mk.injEq] at e; omega) | skip
  · rename_i e
    simp only [Prod.mk.injEq] at e
    obtain ⟨rfl, rfl, -, rfl, rfl, rfl⟩ := e
    simp only [Bool.and_eq_true, decide_eq_true_eq, List.isEmpty_iff] at hc
    obtain ⟨⟨⟨⟨⟨⟨a1, a2⟩, a3⟩, a4⟩, a6⟩, a7⟩, a8⟩ := hc
    exact ⟨mtd_of a1 (hw.resolve_left (by omega)) (allw_at _ a6 rfl), a2, a3, allw_at _ a4 rfl, allw_at _ a7 rfl, allw_at _ a8 rfl⟩
  · simp at hc
theorem cres_1 {oc j : Nat} {z : MI} (h : cres oc j = some (1, z)) : mtdP z ∧ Cond.methodLink (ownR oc) j (mNm z) ∈ ALLW ∧ Cond.static (mNm z) ∈ ALLW := by
  obtain ⟨a, bs, hc, hw⟩ := cres_in h
  unfold cr_ck at hc
  split at hc <;> first | (rename_i e; simp only [Prod.mk.injEq] at e; omega) | skip
  · rename_i e
    simp only [Prod.mk.injEq] at e
    obtain ⟨rfl, rfl, -, rfl, rfl, rfl⟩ := e
    simp only [Bool.and_eq_true, decide_eq_true_eq] at hc
    obtain ⟨⟨⟨a1, a4⟩, a6⟩, a7⟩ := hc
    exact ⟨mtd_of a1 (hw.resolve_left (by omega)) (allw_at _ a6 rfl), allw_at _ a4 rfl, allw_at _ a7 rfl⟩
  · simp at hc
theorem cres_2 {oc j : Nat} {z : MI} (h : cres oc j = some (2, z)) : mtdP z ∧ mIni z = true ∧ mRet z = none ∧ mHH z = [] ∧ Cond.methodLink (ownR oc) j (mNm z) ∈ ALLW ∧ Cond.instanceMethod (mNm z) ∈ ALLW := by
  obtain ⟨a, bs, hc, hw⟩ := cres_in h
  unfold cr_ck at hc
  split at hc <;> first | (rename_i e; simp only [Prod.mk.injEq] at e; omega) | skip
  · rename_i e
    simp only [Prod.mk.injEq] at e
    obtain ⟨rfl, rfl, -, rfl, rfl, rfl⟩ := e
    simp only [Bool.and_eq_true, decide_eq_true_eq, List.isEmpty_iff, Option.isNone_iff_eq_none] at hc
    obtain ⟨⟨⟨⟨⟨⟨a1, a2⟩, a3⟩, a9⟩, a4⟩, a6⟩, a7⟩ := hc
    exact ⟨mtd_of a1 (hw.resolve_left (by omega)) (allw_at _ a6 rfl), a2, a3, a9, allw_at _ a4 rfl, allw_at _ a7 rfl⟩
  · simp at hc
theorem cres_3 {oc j : Nat} {z : MI} (h : cres oc j = some (3, z)) : mtdP z ∧ mIni z = true ∧ mRet z = none ∧ mHH z = [] ∧ Cond.methodLinkNest (ownR oc) j (mNm z) RX11 ∈ lw_tbl ∧ Cond.instanceMethod (mNm z) ∈ ALLW := by
  obtain ⟨a, bs, hc, hw⟩ := cres_in h
  unfold cr_ck at hc
  split at hc <;> first | (rename_i e; simp only [Prod.mk.injEq] at e; omega) | skip
  · rename_i e
    simp only [Prod.mk.injEq] at e
    obtain ⟨rfl, rfl, -, rfl, rfl, rfl⟩ := e
    simp only [Bool.and_eq_true, decide_eq_true_eq, List.isEmpty_iff, Option.isNone_iff_eq_none] at hc
    obtain ⟨⟨⟨⟨⟨⟨a1, a2⟩, a3⟩, a9⟩, a4⟩, a6⟩, a7⟩ := hc
    exact ⟨mtd_of a1 (hw.resolve_left (by omega)) (allw_at _ a6 rfl), a2, a3, a9, tba_in a4, allw_at _ a7 rfl⟩
  · simp at hc
theorem cres_4 {oc j : Nat} {z : MI} (h : cres oc j = some (4, z)) : Cond.methodLink (ownR oc) j objectInit ∈ ALLW := by
  obtain ⟨a, bs, hc, hw⟩ := cres_in h
  unfold cr_ck at hc
  split at hc <;> first | (rename_i e; simp only [Prod.mk.injEq] at e; omega) | skip
  · rename_i e
    simp only [Prod.mk.injEq] at e
    obtain ⟨rfl, rfl, -, rfl, rfl, rfl⟩ := e
    exact allw_at _ (of_decide_eq_true hc) rfl
  · simp at hc
theorem cres_5 {oc j : Nat} {z : MI} (h : cres oc j = some (5, z)) : Cond.methodLink (ownR oc) j Lib.Math.max.name ∈ ALLW := by
  obtain ⟨a, bs, hc, hw⟩ := cres_in h
  unfold cr_ck at hc
  split at hc <;> first | (rename_i e; simp only [Prod.mk.injEq] at e; omega) | skip
  · rename_i e
    simp only [Prod.mk.injEq] at e
    obtain ⟨rfl, rfl, -, rfl, rfl, rfl⟩ := e
    exact allw_at _ (of_decide_eq_true hc) rfl
  · simp at hc
theorem cres_6 {oc j : Nat} {z : MI} (h : cres oc j = some (6, z)) : Cond.methodLink (ownR oc) j Lib.Math.min.name ∈ ALLW := by
  obtain ⟨a, bs, hc, hw⟩ := cres_in h
  unfold cr_ck at hc
  split at hc <;> first | (rename_i e; simp only [Prod.mk.injEq] at e; omega) | skip
  · rename_i e
    simp only [Prod.mk.injEq] at e
    obtain ⟨rfl, rfl, -, rfl, rfl, rfl⟩ := e
    exact allw_at _ (of_decide_eq_true hc) rfl
  · simp at hc
set_option maxRecDepth 20000 in
theorem wo_inst : Cond.instanceMethod objectInit ∈ ALLW := allw_at 1028 (by decide +kernel) rfl
set_option maxRecDepth 20000 in
theorem wo_code : Cond.code objectInit ⟨#[0xb1]⟩ 1 none ∈ ALLW := allw_at 1029 (by decide +kernel) rfl
set_option maxRecDepth 20000 in
theorem wmx_s : Cond.static Lib.Math.max.name ∈ ALLW := allw_at 4105 (by decide +kernel) rfl
set_option maxRecDepth 20000 in
theorem wmi_s : Cond.static Lib.Math.min.name ∈ ALLW := allw_at 3048 (by decide +kernel) rfl
set_option maxRecDepth 20000 in
theorem wm_i : Cond.initialized "java/lang/Math" ∈ ALLW := allw_at 1020 (by decide +kernel) rfl
set_option maxRecDepth 20000 in
theorem wmx_c : Cond.code Lib.Math.max.name Lib.Math.max.code 2 (some .int) ∈ ALLW := allw_at 4106 (by decide +kernel) rfl
set_option maxRecDepth 20000 in
theorem wmi_c : Cond.code Lib.Math.min.name Lib.Math.min.code 2 (some .int) ∈ ALLW := allw_at 3049 (by decide +kernel) rfl
set_option maxRecDepth 20000 in
theorem wa_int : Cond.arrayClass .int ∈ ALLW := allw_at 2052 (by decide +kernel) rfl
set_option maxRecDepth 20000 in
theorem wa_boolean : Cond.arrayClass .boolean ∈ ALLW := allw_at 1116 (by decide +kernel) rfl
set_option maxRecDepth 20000 in
theorem wa_float : Cond.arrayClass .float ∈ ALLW := allw_at 2053 (by decide +kernel) rfl
set_option maxRecDepth 20000 in
theorem wa_long : Cond.arrayClass .long ∈ ALLW := allw_at 7093 (by decide +kernel) rfl
set_option maxRecDepth 20000 in
theorem wa_double : Cond.arrayClass .double ∈ ALLW := allw_at 7094 (by decide +kernel) rfl
set_option maxRecDepth 20000 in
theorem wx_k1 : Cond.classLink RX11 51 (exN 1) ∈ ALLW := allw_at 3067 (by decide +kernel) rfl
set_option maxRecDepth 20000 in
theorem wx_i1 : Cond.initialized (exN 1) ∈ ALLW := allw_at 1016 (by decide +kernel) rfl
set_option maxRecDepth 20000 in
theorem wx_a1 : ∀ w ∈ (vx_atS RX11 55 (exN 1) ["java/lang/RuntimeException", "java/lang/Exception"]).filter goodWord, w ∈ ALLW := by
  have h : ∀ w ∈ (vx_atS RX11 55 (exN 1) ["java/lang/RuntimeException", "java/lang/Exception"]).filter goodWord, w ∈ lw_tbl := by decide +kernel
  exact fun w hw => List.mem_filter.mpr ⟨h w hw, (List.mem_filter.mp hw).2⟩
set_option maxRecDepth 20000 in
theorem wx_k3 : Cond.classLink RX11 182 (exN 3) ∈ ALLW := allw_at 3147 (by decide +kernel) rfl
set_option maxRecDepth 20000 in
theorem wx_i3 : Cond.initialized (exN 3) ∈ ALLW := allw_at 1017 (by decide +kernel) rfl
set_option maxRecDepth 20000 in
theorem wx_a3 : ∀ w ∈ (vx_atS RX11 186 (exN 3) ["java/lang/RuntimeException", "java/lang/Exception"]).filter goodWord, w ∈ ALLW := by
  have h : ∀ w ∈ (vx_atS RX11 186 (exN 3) ["java/lang/RuntimeException", "java/lang/Exception"]).filter goodWord, w ∈ lw_tbl := by decide +kernel
  exact fun w hw => List.mem_filter.mpr ⟨h w hw, (List.mem_filter.mp hw).2⟩
set_option maxRecDepth 20000 in
theorem wx_k2 : Cond.classLink RX11 127 (exN 2) ∈ ALLW := allw_at 4006 (by decide +kernel) rfl
set_option maxRecDepth 20000 in
theorem wx_i2 : Cond.initialized (exN 2) ∈ ALLW := allw_at 1018 (by decide +kernel) rfl
set_option maxRecDepth 20000 in
theorem wx_a2 : ∀ w ∈ (vx_atS RX11 131 (exN 2) ["java/lang/RuntimeException", "java/lang/Exception"]).filter goodWord, w ∈ ALLW := by
  have h : ∀ w ∈ (vx_atS RX11 131 (exN 2) ["java/lang/RuntimeException", "java/lang/Exception"]).filter goodWord, w ∈ lw_tbl := by decide +kernel
  exact fun w hw => List.mem_filter.mpr ⟨h w hw, (List.mem_filter.mp hw).2⟩
set_option maxRecDepth 20000 in
theorem wh_l1 : Cond.classLink RL 13 (exN 1) ∈ ALLW := allw_at 3062 (by decide +kernel) rfl
set_option maxRecDepth 20000 in
theorem wh_c1 : Cond.castable (exN 1) (exN 1) ∈ lw_tbl := tba_in (p := 3069) (by decide +kernel)
set_option maxRecDepth 20000 in
theorem wh_l3 : Cond.classLink RL 19 (exN 3) ∈ ALLW := allw_at 3138 (by decide +kernel) rfl
set_option maxRecDepth 20000 in
theorem wh_c3 : Cond.castable (exN 3) (exN 3) ∈ lw_tbl := tba_in (p := 3149) (by decide +kernel)
set_option maxRecDepth 20000 in
theorem wh_l2 : Cond.classLink RL 40 (exN 2) ∈ ALLW := allw_at 3231 (by decide +kernel) rfl
set_option maxRecDepth 20000 in
theorem wh_c2 : Cond.castable (exN 2) (exN 2) ∈ lw_tbl := tba_in (p := 4008) (by decide +kernel)
