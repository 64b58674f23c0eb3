/-! ===== the reference's constructor ===== -/
section INI5
variable {h h' hb H : HP} {d n : Nat} {Q : Out → HP → Prop} {S : SI} {F : SF} {e : EX} {z L : Nat} {xs : Nat → Int32}
def RTB : List (Nat × Nat × Nat) := [(1205, 21, 5), (1206, 21, 25), (1207, 22, 5), (1208, 22, 5), (1209, 20, 5), (1210, 20, 5), (1211, 20, 5), (1212, 20, 5), (1213, 20, 5), (1214, 20, 150), (1215, 20, 150), (1216, 20, 150), (1217, 20, 150), (1218, 20, 5), (1219, 20, 25), (1220, 20, 25), (1221, 21, 25), (1222, 22, 25), (1223, 21, 5), (1224, 22, 5), (1225, 20, 5), (1226, 22, 5), (1227, 20, 20), (1228, 20, 20), (1229, 20, 20), (1230, 20, 20), (1231, 20, 20), (1232, 20, 20), (1233, 20, 20), (1234, 20, 20), (1235, 21, 20), (1236, 20, 20), (1237, 20, 1440), (1238, 22, 60), (1241, 21, 14), (1242, 20, 14), (1243, 20, 14), (1244, 20, 14), (1245, 20, 14), (1246, 20, 14), (1248, 20, 16384), (1249, 20, 24)]
theorem RTB_inj : ∀ j, j < 42 → ∀ m, m < 42 → RTB[j]?.map (fun x => x.1) = RTB[m]?.map (fun x => x.1) → j = m := by decide +kernel
/-- the first n arrays made -/
def RI (hb H : HP) (n : Nat) : Prop := FRX hb H (fun b => b = 210) ∧ hN H = 211 + n ∧ (hN hb = 211 ∧ hK hb 210 = 12) ∧ ∀ j f k l, j < n → RTB[j]? = some (f, k, l) → hR H f 210 = 211 + j ∧ hK H (211 + j) = k ∧ hL H (211 + j) = l
theorem RI.k12 (r : RI hb H n) : hK H 210 = 12 := (r.1.K 210 (by rw [r.2.2.1.1]; decide)).trans r.2.2.1.2
theorem RI.lt (r : RI hb H n) : 210 < hN H := by rw [r.2.1]; omega
theorem RI.kn (r : RI hb H n) {k l z : Nat} : hK (nw H k l z) 210 = 12 := (nw_K r.lt).trans r.k12
theorem RI.step (r : RI hb H n) {f k l z : Nat} (hn : n < 42) (q : RTB[n]? = some (f, k, l)) (hz : z ≤ 17000) : RI hb (sR (nw H k l z) f 210 (hN H)) (n + 1) := by
  have f1 : FRX H (sR (nw H k l z) f 210 (hN H)) (fun b => b = 210) := FRX.sR (FRX.n FRX.refl hz) (Or.inl rfl)
  have e := r.2.1
  refine ⟨r.1.trans f1 (fun b _ w => w), by rw [hN_sR, hN_nw]; omega, r.2.2.1, fun j f' k' l' hj q' => ?_⟩
  by_cases c : j = n
  · subst c
    rw [q] at q'
    cases q'
    refine ⟨?_, ?_, ?_⟩
    · rw [hR_sR, if_pos ⟨rfl, rfl⟩, e]
    · rw [hK_sR, hK_nw, if_pos e.symm]
    · rw [hL_sR, hL_nw, if_pos e.symm]
  · obtain ⟨g1, g2, g3⟩ := r.2.2.2 j f' k' l' (by omega) q'
    refine ⟨?_, (f1.K _ (by omega)).trans g2, (f1.L _ (by omega)).trans g3⟩
    rw [hR_sR, if_neg (fun w => c (RTB_inj j (by omega) n hn (by rw [q, q']; show some f' = some f; rw [w.1]))), nw_R (by omega)]
    exact g1
def mRef : SI := u2 (u2 zS 0 0 3) 1002 0 1
def gRef : SF := u2 zF 2 0 1092616192
/-- the cell that the reference begins with -/
def hbR (h : HP) : HP := sF (sI (nw h 12 0 51) 1200 210 3) 1202 210 1092616192
theorem rc_ref (hr : RC S F e (mFst, zF, 208, z, L, xs) h) (hn : hN h = 210) (r : RI (hbR h) H 42) : RC S F e (mRef, gRef, 251, hZ H, L, xs) H ∧ hZ H ≤ z + 731000 := by
  have fr := r.1
  have n1 : hN (hbR h) = 211 := r.2.2.1.1
  have nH : hN H = 253 := r.2.1
  have hC0 : hC h = 208 := hr.2.2.2.2.2.2.2.2.2.2.2.1
  have hZ0 : hZ h = z := hr.2.2.2.2.2.2.2.2.2.2.2.2.1
  have c1 : hC (hbR h) = 209 := by show hC h + 1 = 209; omega
  have z1 : hZ (hbR h) = z + 51 := by show hZ h + 51 = _; omega
  have cH : hC H = 251 := by
    have := fr.C
    omega
  have zH : hZ H ≤ z + 731000 := by
    have := fr.Z
    omega
  have eI : ∀ f b, b < hN h → hI (hbR h) f b = hI h f b := fun f b hb => by
    show hI (sI (nw h 12 0 51) 1200 210 3) f b = _
    rw [ne_sI (by omega), nw_I hb]
  have eF : ∀ f b, b < hN h → hF (hbR h) f b = hF h f b := fun f b hb => by
    show (if f = 1202 ∧ b = 210 then _ else hF (nw h 12 0 51) f b) = _
    rw [if_neg (by omega), nw_F hb]
  have q := rc_ext (h' := H) hr (fun f b hb => (fr.I f b (by omega) (Or.inr (by omega))).trans (eI f b hb)) (fun f b hb => (fr.F f b (by omega)).trans (eF f b hb)) (fun f b hb => (fr.R f b (by omega) (by omega)).trans (nw_R hb)) (fun b hb => funext fun j => (fr.AI b j (by omega)).trans (congrFun (nw_AI hb) j)) (fun b hb => funext fun j => (fr.AF b j (by omega)).trans (congrFun (nw_AF hb) j)) (fun b hb => funext fun j => (fr.AR b j (by omega) (by omega)).trans (congrFun (nw_AR hb) j)) (fun b hb => (fr.K b (by omega)).trans (nw_K hb)) (fun b hb => (fr.L b (by omega)).trans (nw_L hb)) (by omega) (by omega) (fun b hb => (fr.AL b (by omega)).trans (nw_AL hb)) (fun b hb => (fr.AD b (by omega)).trans (nw_AD hb))
  rw [cH] at q
  have hI0 : ∀ f, f ≠ 1200 → f ≠ 800 → hI H f 210 = 0 := fun f hf h8 => by
    rw [fr.I f 210 (by omega) (Or.inl h8)]
    show hI (sI (nw h 12 0 51) 1200 210 3) f 210 = 0
    rw [ne_sI (fun w => hf w.1), hI_nw, if_pos hn.symm]
  have hF0 : ∀ f, f ≠ 1202 → hF H f 210 = 0 := fun f hf => by
    rw [fr.F f 210 (by omega)]
    show (if f = 1202 ∧ 210 = 210 then _ else hF (nw h 12 0 51) f 210) = _
    rw [if_neg (fun w => hf w.1), hF_nw, if_pos hn.symm]
  have i3 : hI H 1200 210 = 3 := by
    rw [fr.I 1200 210 (by omega) (Or.inl (by decide))]
    show hI (sI (nw h 12 0 51) 1200 210 3) 1200 210 = 3
    rw [hI_sI, if_pos ⟨rfl, rfl⟩]
  have f10 : hF H 1202 210 = 1092616192 := by
    rw [fr.F 1202 210 (by omega)]
    show (if 1202 = 1202 ∧ 210 = 210 then 1092616192 else hF (nw h 12 0 51) 1202 210) = _
    exact if_pos ⟨rfl, rfl⟩
  have mA : ∀ b s, 211 ≤ b → b < 253 → s ≠ 0 → s ≠ 1002 → hAI H b = mRef s := fun b s h1 h2 h3 h4 => funext fun j => by
    rw [fr.nAI b j (by omega) (by omega)]
    show (0 : Int32) = u2 (u2 zS 0 0 3) 1002 0 1 s j
    rw [u2_ne (by omega), u2_ne (by omega)]
    rfl
  have mF : ∀ b s, 211 ≤ b → b < 253 → s ≠ 2 → hAF H b = gRef s := fun b s h1 h2 h3 => funext fun j => by
    rw [fr.nAF b j (by omega) (by omega)]
    show (0 : UInt32) = u2 zF 2 0 1092616192 s j
    rw [u2_ne (by omega)]
    rfl
  have T := r.2.2.2
  obtain ⟨hs, hrow, hm, hl, hle, hc, hnet, hh, hg, g1, g2, g3, g4, g5, g6, g7, g8⟩ := q
  refine ⟨⟨hs, hrow, hm, hl, hle, hc, hnet, hh, hg, fun _ => ⟨r.k12, trivial, trivial, trivial, trivial, g7.2.2, (T 0 _ _ _ (by decide) rfl).1, (T 0 _ _ _ (by decide) rfl).2.1, (T 0 _ _ _ (by decide) rfl).2.2, (T 1 _ _ _ (by decide) rfl).1, (T 1 _ _ _ (by decide) rfl).2.1, (T 1 _ _ _ (by decide) rfl).2.2, (T 2 _ _ _ (by decide) rfl).1, (T 2 _ _ _ (by decide) rfl).2.1, (T 2 _ _ _ (by decide) rfl).2.2, (T 3 _ _ _ (by decide) rfl).1, (T 3 _ _ _ (by decide) rfl).2.1, (T 3 _ _ _ (by decide) rfl).2.2, (T 4 _ _ _ (by decide) rfl).1, (T 4 _ _ _ (by decide) rfl).2.1, (T 4 _ _ _ (by decide) rfl).2.2, (T 5 _ _ _ (by decide) rfl).1, (T 5 _ _ _ (by decide) rfl).2.1, (T 5 _ _ _ (by decide) rfl).2.2, (T 6 _ _ _ (by decide) rfl).1, (T 6 _ _ _ (by decide) rfl).2.1, (T 6 _ _ _ (by decide) rfl).2.2, (T 7 _ _ _ (by decide) rfl).1, (T 7 _ _ _ (by decide) rfl).2.1, (T 7 _ _ _ (by decide) rfl).2.2, (T 8 _ _ _ (by decide) rfl).1, (T 8 _ _ _ (by decide) rfl).2.1, (T 8 _ _ _ (by decide) rfl).2.2, (T 9 _ _ _ (by decide) rfl).1, (T 9 _ _ _ (by decide) rfl).2.1, (T 9 _ _ _ (by decide) rfl).2.2, (T 10 _ _ _ (by decide) rfl).1, (T 10 _ _ _ (by decide) rfl).2.1, (T 10 _ _ _ (by decide) rfl).2.2, (T 11 _ _ _ (by decide) rfl).1, (T 11 _ _ _ (by decide) rfl).2.1, (T 11 _ _ _ (by decide) rfl).2.2, (T 12 _ _ _ (by decide) rfl).1, (T 12 _ _ _ (by decide) rfl).2.1, (T 12 _ _ _ (by decide) rfl).2.2, (T 13 _ _ _ (by decide) rfl).1, (T 13 _ _ _ (by decide) rfl).2.1, (T 13 _ _ _ (by decide) rfl).2.2, (T 14 _ _ _ (by decide) rfl).1, (T 14 _ _ _ (by decide) rfl).2.1, (T 14 _ _ _ (by decide) rfl).2.2, (T 15 _ _ _ (by decide) rfl).1, (T 15 _ _ _ (by decide) rfl).2.1, (T 15 _ _ _ (by decide) rfl).2.2, (T 16 _ _ _ (by decide) rfl).1, (T 16 _ _ _ (by decide) rfl).2.1, (T 16 _ _ _ (by decide) rfl).2.2, (T 17 _ _ _ (by decide) rfl).1, (T 17 _ _ _ (by decide) rfl).2.1, (T 17 _ _ _ (by decide) rfl).2.2, (T 18 _ _ _ (by decide) rfl).1, (T 18 _ _ _ (by decide) rfl).2.1, (T 18 _ _ _ (by decide) rfl).2.2, (T 19 _ _ _ (by decide) rfl).1, (T 19 _ _ _ (by decide) rfl).2.1, (T 19 _ _ _ (by decide) rfl).2.2, (T 20 _ _ _ (by decide) rfl).1, (T 20 _ _ _ (by decide) rfl).2.1, (T 20 _ _ _ (by decide) rfl).2.2, (T 21 _ _ _ (by decide) rfl).1, (T 21 _ _ _ (by decide) rfl).2.1, (T 21 _ _ _ (by decide) rfl).2.2, (T 22 _ _ _ (by decide) rfl).1, (T 22 _ _ _ (by decide) rfl).2.1, (T 22 _ _ _ (by decide) rfl).2.2, (T 23 _ _ _ (by decide) rfl).1, (T 23 _ _ _ (by decide) rfl).2.1, (T 23 _ _ _ (by decide) rfl).2.2, (T 24 _ _ _ (by decide) rfl).1, (T 24 _ _ _ (by decide) rfl).2.1, (T 24 _ _ _ (by decide) rfl).2.2, (T 25 _ _ _ (by decide) rfl).1, (T 25 _ _ _ (by decide) rfl).2.1, (T 25 _ _ _ (by decide) rfl).2.2, (T 26 _ _ _ (by decide) rfl).1, (T 26 _ _ _ (by decide) rfl).2.1, (T 26 _ _ _ (by decide) rfl).2.2, (T 27 _ _ _ (by decide) rfl).1, (T 27 _ _ _ (by decide) rfl).2.1, (T 27 _ _ _ (by decide) rfl).2.2, (T 28 _ _ _ (by decide) rfl).1, (T 28 _ _ _ (by decide) rfl).2.1, (T 28 _ _ _ (by decide) rfl).2.2, (T 29 _ _ _ (by decide) rfl).1, (T 29 _ _ _ (by decide) rfl).2.1, (T 29 _ _ _ (by decide) rfl).2.2, (T 30 _ _ _ (by decide) rfl).1, (T 30 _ _ _ (by decide) rfl).2.1, (T 30 _ _ _ (by decide) rfl).2.2, (T 31 _ _ _ (by decide) rfl).1, (T 31 _ _ _ (by decide) rfl).2.1, (T 31 _ _ _ (by decide) rfl).2.2, (T 32 _ _ _ (by decide) rfl).1, (T 32 _ _ _ (by decide) rfl).2.1, (T 32 _ _ _ (by decide) rfl).2.2, (T 33 _ _ _ (by decide) rfl).1, (T 33 _ _ _ (by decide) rfl).2.1, (T 33 _ _ _ (by decide) rfl).2.2, (T 34 _ _ _ (by decide) rfl).1, (T 34 _ _ _ (by decide) rfl).2.1, (T 34 _ _ _ (by decide) rfl).2.2, (T 35 _ _ _ (by decide) rfl).1, (T 35 _ _ _ (by decide) rfl).2.1, (T 35 _ _ _ (by decide) rfl).2.2, (T 36 _ _ _ (by decide) rfl).1, (T 36 _ _ _ (by decide) rfl).2.1, (T 36 _ _ _ (by decide) rfl).2.2, (T 37 _ _ _ (by decide) rfl).1, (T 37 _ _ _ (by decide) rfl).2.1, (T 37 _ _ _ (by decide) rfl).2.2, (T 38 _ _ _ (by decide) rfl).1, (T 38 _ _ _ (by decide) rfl).2.1, (T 38 _ _ _ (by decide) rfl).2.2, (T 39 _ _ _ (by decide) rfl).1, (T 39 _ _ _ (by decide) rfl).2.1, (T 39 _ _ _ (by decide) rfl).2.2, (T 40 _ _ _ (by decide) rfl).1, (T 40 _ _ _ (by decide) rfl).2.1, (T 40 _ _ _ (by decide) rfl).2.2, (T 41 _ _ _ (by decide) rfl).1, (T 41 _ _ _ (by decide) rfl).2.1, (T 41 _ _ _ (by decide) rfl).2.2⟩, fun _ => ⟨i3, hI0 1204 (by decide) (by decide), hI0 1239 (by decide) (by decide), hI0 1240 (by decide) (by decide), hI0 1247 (by decide) (by decide), hI0 1250 (by decide) (by decide), hF0 1201 (by decide), f10, hF0 1203 (by decide), mA 211 5 (by decide) (by decide) (by decide) (by decide), mA 212 6 (by decide) (by decide) (by decide) (by decide), mF 213 7 (by decide) (by decide) (by decide), mF 214 8 (by decide) (by decide) (by decide), mA 215 9 (by decide) (by decide) (by decide) (by decide), mA 216 10 (by decide) (by decide) (by decide) (by decide), mA 217 11 (by decide) (by decide) (by decide) (by decide), mA 218 12 (by decide) (by decide) (by decide) (by decide), mA 219 13 (by decide) (by decide) (by decide) (by decide), mA 220 14 (by decide) (by decide) (by decide) (by decide), mA 221 15 (by decide) (by decide) (by decide) (by decide), mA 222 16 (by decide) (by decide) (by decide) (by decide), mA 223 17 (by decide) (by decide) (by decide) (by decide), mA 224 18 (by decide) (by decide) (by decide) (by decide), mA 225 19 (by decide) (by decide) (by decide) (by decide), mA 226 20 (by decide) (by decide) (by decide) (by decide), mA 227 21 (by decide) (by decide) (by decide) (by decide), mF 228 22 (by decide) (by decide) (by decide), mA 229 23 (by decide) (by decide) (by decide) (by decide), mF 230 24 (by decide) (by decide) (by decide), mA 231 25 (by decide) (by decide) (by decide) (by decide), mF 232 26 (by decide) (by decide) (by decide), mA 233 27 (by decide) (by decide) (by decide) (by decide), mA 234 28 (by decide) (by decide) (by decide) (by decide), mA 235 29 (by decide) (by decide) (by decide) (by decide), mA 236 30 (by decide) (by decide) (by decide) (by decide), mA 237 31 (by decide) (by decide) (by decide) (by decide), mA 238 32 (by decide) (by decide) (by decide) (by decide), mA 239 33 (by decide) (by decide) (by decide) (by decide), mA 240 34 (by decide) (by decide) (by decide) (by decide), mA 241 35 (by decide) (by decide) (by decide) (by decide), mA 242 36 (by decide) (by decide) (by decide) (by decide), mA 243 37 (by decide) (by decide) (by decide) (by decide), mF 244 38 (by decide) (by decide) (by decide), mA 245 41 (by decide) (by decide) (by decide) (by decide), mA 246 42 (by decide) (by decide) (by decide) (by decide), mA 247 43 (by decide) (by decide) (by decide) (by decide), mA 248 44 (by decide) (by decide) (by decide) (by decide), mA 249 45 (by decide) (by decide) (by decide) (by decide), mA 250 46 (by decide) (by decide) (by decide) (by decide), mA 251 48 (by decide) (by decide) (by decide) (by decide), mA 252 49 (by decide) (by decide) (by decide) (by decide)⟩, g3, g4, g5, g6, g7, fun _ => ⟨by omega, fun w => absurd (show (1 : Int32) = 0 from w) (by decide)⟩⟩, zH⟩
theorem x_ini_324 (hr : RC S F e (mFst, zF, 208, z, L, xs) h) (hn : hN h = 210) (k : ∀ h', RC S F e (beginS mRef 3, beginF gRef, 251, hZ h', L, xs) h' → hN h' = 253 → hZ h' ≤ z + 731000 → Q (.inl none) h') (r : RI (hbR h) H 39) : WP (d + 1) mX12_init 324 [some (.ref 210)] [.ref (hN H), .ref 210] (nw H 20 14 14) Q := by
  have r1 := RI.step (f := 1246) (k := 20) (l := 14) (z := 14) (r) (by decide) rfl (by decide)
  have r2 := RI.step (f := 1248) (k := 20) (l := 16384) (z := 16384) (r1) (by decide) rfl (by decide)
  have r3 := RI.step (f := 1249) (k := 20) (l := 24) (z := 24) (r2) (by decide) rfl (by decide)
  refine bX12_init_324 ⟨r.kn, r1.kn, r2.kn, by decide, r3.k12, ?_⟩
  obtain ⟨q, hz⟩ := rc_ref hr hn r3
  refine x_begins q rfl ?_
  intro h' q'
  have t := q'.2.2.2.2.2.2.2.2.2.2.2
  have c' : hC h' = 251 := t.1
  have z' : hZ h' = _ := t.2.1
  have n' := t.2.2.2.2.1
  have n2 : 253 ≤ hN h' := (t.2.2.2.2.2 (by simp [beginS, mRef, zS, u2])).1
  rw [KK_ret]
  refine bX12_init_349 (k h' ?_ (by omega) (by rw [z']; exact hz))
  rw [z']
  exact q'
theorem x_ini_292 (hr : RC S F e (mFst, zF, 208, z, L, xs) h) (hn : hN h = 210) (k : ∀ h', RC S F e (beginS mRef 3, beginF gRef, 251, hZ h', L, xs) h' → hN h' = 253 → hZ h' ≤ z + 731000 → Q (.inl none) h') (r : RI (hbR h) H 35) : WP (d + 1) mX12_init 292 [some (.ref 210)] [.ref (hN H), .ref 210] (nw H 20 14 14) Q := by
  have r1 := RI.step (f := 1242) (k := 20) (l := 14) (z := 14) (r) (by decide) rfl (by decide)
  have r2 := RI.step (f := 1243) (k := 20) (l := 14) (z := 14) (r1) (by decide) rfl (by decide)
  have r3 := RI.step (f := 1244) (k := 20) (l := 14) (z := 14) (r2) (by decide) rfl (by decide)
  have r4 := RI.step (f := 1245) (k := 20) (l := 14) (z := 14) (r3) (by decide) rfl (by decide)
  exact bX12_init_292 ⟨r.kn, r1.kn, r2.kn, r3.kn, x_ini_324 hr hn k r4⟩
theorem x_ini_259 (hr : RC S F e (mFst, zF, 208, z, L, xs) h) (hn : hN h = 210) (k : ∀ h', RC S F e (beginS mRef 3, beginF gRef, 251, hZ h', L, xs) h' → hN h' = 253 → hZ h' ≤ z + 731000 → Q (.inl none) h') (r : RI (hbR h) H 31) : WP (d + 1) mX12_init 259 [some (.ref 210)] [.ref (hN H), .ref 210] (nw H 20 20 20) Q := by
  have r1 := RI.step (f := 1236) (k := 20) (l := 20) (z := 20) (r) (by decide) rfl (by decide)
  have r2 := RI.step (f := 1237) (k := 20) (l := 1440) (z := 1440) (r1) (by decide) rfl (by decide)
  have r3 := RI.step (f := 1238) (k := 22) (l := 60) (z := 60) (r2) (by decide) rfl (by decide)
  have r4 := RI.step (f := 1241) (k := 21) (l := 14) (z := 14) (r3) (by decide) rfl (by decide)
  exact bX12_init_259 ⟨r.kn, r1.kn, r2.kn, r3.kn, x_ini_292 hr hn k r4⟩
theorem x_ini_227 (hr : RC S F e (mFst, zF, 208, z, L, xs) h) (hn : hN h = 210) (k : ∀ h', RC S F e (beginS mRef 3, beginF gRef, 251, hZ h', L, xs) h' → hN h' = 253 → hZ h' ≤ z + 731000 → Q (.inl none) h') (r : RI (hbR h) H 27) : WP (d + 1) mX12_init 227 [some (.ref 210)] [.ref (hN H), .ref 210] (nw H 20 20 20) Q := by
  have r1 := RI.step (f := 1232) (k := 20) (l := 20) (z := 20) (r) (by decide) rfl (by decide)
  have r2 := RI.step (f := 1233) (k := 20) (l := 20) (z := 20) (r1) (by decide) rfl (by decide)
  have r3 := RI.step (f := 1234) (k := 20) (l := 20) (z := 20) (r2) (by decide) rfl (by decide)
  have r4 := RI.step (f := 1235) (k := 21) (l := 20) (z := 20) (r3) (by decide) rfl (by decide)
  exact bX12_init_227 ⟨r.kn, r1.kn, r2.kn, r3.kn, x_ini_259 hr hn k r4⟩
theorem x_ini_195 (hr : RC S F e (mFst, zF, 208, z, L, xs) h) (hn : hN h = 210) (k : ∀ h', RC S F e (beginS mRef 3, beginF gRef, 251, hZ h', L, xs) h' → hN h' = 253 → hZ h' ≤ z + 731000 → Q (.inl none) h') (r : RI (hbR h) H 23) : WP (d + 1) mX12_init 195 [some (.ref 210)] [.ref (hN H), .ref 210] (nw H 20 20 20) Q := by
  have r1 := RI.step (f := 1228) (k := 20) (l := 20) (z := 20) (r) (by decide) rfl (by decide)
  have r2 := RI.step (f := 1229) (k := 20) (l := 20) (z := 20) (r1) (by decide) rfl (by decide)
  have r3 := RI.step (f := 1230) (k := 20) (l := 20) (z := 20) (r2) (by decide) rfl (by decide)
  have r4 := RI.step (f := 1231) (k := 20) (l := 20) (z := 20) (r3) (by decide) rfl (by decide)
  exact bX12_init_195 ⟨r.kn, r1.kn, r2.kn, r3.kn, x_ini_227 hr hn k r4⟩
theorem x_ini_165 (hr : RC S F e (mFst, zF, 208, z, L, xs) h) (hn : hN h = 210) (k : ∀ h', RC S F e (beginS mRef 3, beginF gRef, 251, hZ h', L, xs) h' → hN h' = 253 → hZ h' ≤ z + 731000 → Q (.inl none) h') (r : RI (hbR h) H 19) : WP (d + 1) mX12_init 165 [some (.ref 210)] [.ref (hN H), .ref 210] (nw H 22 5 5) Q := by
  have r1 := RI.step (f := 1224) (k := 22) (l := 5) (z := 5) (r) (by decide) rfl (by decide)
  have r2 := RI.step (f := 1225) (k := 20) (l := 5) (z := 5) (r1) (by decide) rfl (by decide)
  have r3 := RI.step (f := 1226) (k := 22) (l := 5) (z := 5) (r2) (by decide) rfl (by decide)
  have r4 := RI.step (f := 1227) (k := 20) (l := 20) (z := 20) (r3) (by decide) rfl (by decide)
  exact bX12_init_165 ⟨r.kn, r1.kn, r2.kn, r3.kn, x_ini_195 hr hn k r4⟩
theorem x_ini_135 (hr : RC S F e (mFst, zF, 208, z, L, xs) h) (hn : hN h = 210) (k : ∀ h', RC S F e (beginS mRef 3, beginF gRef, 251, hZ h', L, xs) h' → hN h' = 253 → hZ h' ≤ z + 731000 → Q (.inl none) h') (r : RI (hbR h) H 15) : WP (d + 1) mX12_init 135 [some (.ref 210)] [.ref (hN H), .ref 210] (nw H 20 25 25) Q := by
  have r1 := RI.step (f := 1220) (k := 20) (l := 25) (z := 25) (r) (by decide) rfl (by decide)
  have r2 := RI.step (f := 1221) (k := 21) (l := 25) (z := 25) (r1) (by decide) rfl (by decide)
  have r3 := RI.step (f := 1222) (k := 22) (l := 25) (z := 25) (r2) (by decide) rfl (by decide)
  have r4 := RI.step (f := 1223) (k := 21) (l := 5) (z := 5) (r3) (by decide) rfl (by decide)
  exact bX12_init_135 ⟨r.kn, r1.kn, r2.kn, r3.kn, x_ini_165 hr hn k r4⟩
theorem x_ini_103 (hr : RC S F e (mFst, zF, 208, z, L, xs) h) (hn : hN h = 210) (k : ∀ h', RC S F e (beginS mRef 3, beginF gRef, 251, hZ h', L, xs) h' → hN h' = 253 → hZ h' ≤ z + 731000 → Q (.inl none) h') (r : RI (hbR h) H 11) : WP (d + 1) mX12_init 103 [some (.ref 210)] [.ref (hN H), .ref 210] (nw H 20 150 150) Q := by
  have r1 := RI.step (f := 1216) (k := 20) (l := 150) (z := 150) (r) (by decide) rfl (by decide)
  have r2 := RI.step (f := 1217) (k := 20) (l := 150) (z := 150) (r1) (by decide) rfl (by decide)
  have r3 := RI.step (f := 1218) (k := 20) (l := 5) (z := 5) (r2) (by decide) rfl (by decide)
  have r4 := RI.step (f := 1219) (k := 20) (l := 25) (z := 25) (r3) (by decide) rfl (by decide)
  exact bX12_init_103 ⟨r.kn, r1.kn, r2.kn, r3.kn, x_ini_135 hr hn k r4⟩
theorem x_ini_69 (hr : RC S F e (mFst, zF, 208, z, L, xs) h) (hn : hN h = 210) (k : ∀ h', RC S F e (beginS mRef 3, beginF gRef, 251, hZ h', L, xs) h' → hN h' = 253 → hZ h' ≤ z + 731000 → Q (.inl none) h') (r : RI (hbR h) H 7) : WP (d + 1) mX12_init 69 [some (.ref 210)] [.ref (hN H), .ref 210] (nw H 20 5 5) Q := by
  have r1 := RI.step (f := 1212) (k := 20) (l := 5) (z := 5) (r) (by decide) rfl (by decide)
  have r2 := RI.step (f := 1213) (k := 20) (l := 5) (z := 5) (r1) (by decide) rfl (by decide)
  have r3 := RI.step (f := 1214) (k := 20) (l := 150) (z := 150) (r2) (by decide) rfl (by decide)
  have r4 := RI.step (f := 1215) (k := 20) (l := 150) (z := 150) (r3) (by decide) rfl (by decide)
  exact bX12_init_69 ⟨r.kn, r1.kn, r2.kn, r3.kn, x_ini_103 hr hn k r4⟩
theorem x_ini_41 (hr : RC S F e (mFst, zF, 208, z, L, xs) h) (hn : hN h = 210) (k : ∀ h', RC S F e (beginS mRef 3, beginF gRef, 251, hZ h', L, xs) h' → hN h' = 253 → hZ h' ≤ z + 731000 → Q (.inl none) h') (r : RI (hbR h) H 3) : WP (d + 1) mX12_init 41 [some (.ref 210)] [.ref (hN H), .ref 210] (nw H 22 5 5) Q := by
  have r1 := RI.step (f := 1208) (k := 22) (l := 5) (z := 5) (r) (by decide) rfl (by decide)
  have r2 := RI.step (f := 1209) (k := 20) (l := 5) (z := 5) (r1) (by decide) rfl (by decide)
  have r3 := RI.step (f := 1210) (k := 20) (l := 5) (z := 5) (r2) (by decide) rfl (by decide)
  have r4 := RI.step (f := 1211) (k := 20) (l := 5) (z := 5) (r3) (by decide) rfl (by decide)
  exact bX12_init_41 ⟨r.kn, r1.kn, r2.kn, r3.kn, x_ini_69 hr hn k r4⟩
theorem x_X12init (hr : RC S F e (mFst, zF, 208, z, L, xs) h) (hn : hN h = 210) (k : ∀ h', RC S F e (beginS mRef 3, beginF gRef, 251, hZ h', L, xs) h' → hN h' = 253 → hZ h' ≤ z + 731000 → Q (.inl none) h') : WP (d + 1) mX12_init 0 [some (.ref 210)] [] (nw h 12 0 51) Q := by
  have r0 : RI (hbR h) (hbR h) 0 := ⟨FRX.refl, by show hN h + 1 = 211; omega, ⟨by show hN h + 1 = 211; omega, by show hK (nw h 12 0 51) 210 = 12; rw [hK_nw, if_pos hn.symm]⟩, fun j f k l hj => absurd hj (by omega)⟩
  have r1 := RI.step (f := 1205) (k := 21) (l := 5) (z := 5) (r0) (by decide) rfl (by decide)
  have r2 := RI.step (f := 1206) (k := 21) (l := 25) (z := 25) (r1) (by decide) rfl (by decide)
  have r3 := RI.step (f := 1207) (k := 22) (l := 5) (z := 5) (r2) (by decide) rfl (by decide)
  exact bX12_init_0 ⟨by decide, by rw [hK_nw, if_pos hn.symm], r0.kn, r1.kn, r2.kn, x_ini_41 hr hn k r3⟩
end INI5
