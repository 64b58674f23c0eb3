/-! ===== calls, ends and exceptions: every method by one theorem ===== -/
def exNs : List String := ["java/lang/RuntimeException", "java/lang/Exception"]
def isCD (w : Cond) : Bool := match w with
  | .castable a z => (a == z) && (a == exN 1 || (a == exN 2 || a == exN 3))
  | .declares _ => true
  | _ => false
set_option maxRecDepth 20000 in
theorem wx_b1 : ∀ w ∈ (vx_atS RX11 55 (exN 1) ["java/lang/RuntimeException", "java/lang/Exception"]).filter (fun w => !goodWord w), isCD w = true ∧ w ∈ lw_tbl := by decide +kernel
set_option maxRecDepth 20000 in
theorem wx_g1 : ∀ w ∈ Cond.classLink RX11 51 (exN 1) :: Cond.initialized (exN 1) :: vx_atS RX11 55 (exN 1) ["java/lang/RuntimeException", "java/lang/Exception"], vx_ot w = true := by decide +kernel
set_option maxRecDepth 20000 in
theorem wx_b2 : ∀ w ∈ (vx_atS RX11 131 (exN 2) ["java/lang/RuntimeException", "java/lang/Exception"]).filter (fun w => !goodWord w), isCD w = true ∧ w ∈ lw_tbl := by decide +kernel
set_option maxRecDepth 20000 in
theorem wx_g2 : ∀ w ∈ Cond.classLink RX11 127 (exN 2) :: Cond.initialized (exN 2) :: vx_atS RX11 131 (exN 2) ["java/lang/RuntimeException", "java/lang/Exception"], vx_ot w = true := by decide +kernel
set_option maxRecDepth 20000 in
theorem wx_b3 : ∀ w ∈ (vx_atS RX11 186 (exN 3) ["java/lang/RuntimeException", "java/lang/Exception"]).filter (fun w => !goodWord w), isCD w = true ∧ w ∈ lw_tbl := by decide +kernel
set_option maxRecDepth 20000 in
theorem wx_g3 : ∀ w ∈ Cond.classLink RX11 182 (exN 3) :: Cond.initialized (exN 3) :: vx_atS RX11 186 (exN 3) ["java/lang/RuntimeException", "java/lang/Exception"], vx_ot w = true := by decide +kernel
theorem xres_ok {oc j q k e : Nat} (h : xres oc j q k = some e) : oc = 11 ∧ k ∈ strT ∧ ((e = 1 ∧ j = 51 ∧ q = 55) ∨ (e = 2 ∧ j = 127 ∧ q = 131) ∨ (e = 3 ∧ j = 182 ∧ q = 186)) := by
  unfold xres at h
  split at h
  · rename_i hc
    simp only [Bool.and_eq_true, beq_iff_eq, List.contains_iff_mem] at hc
    refine ⟨hc.1, hc.2, ?_⟩
    obtain ⟨z, hz, he⟩ := Option.map_eq_some_iff.mp h
    have hm := List.mem_of_find?_eq_some hz
    have hp := List.find?_some hz
    simp only [Bool.and_eq_true, beq_iff_eq] at hp
    simp only [xrT, List.mem_cons, List.not_mem_nil, or_false] at hm
    obtain ⟨a1, a2, a3⟩ := z
    simp only [Prod.mk.injEq] at hm hp he
    omega
  · cases h
theorem hat_of {D : va_G} {ca : Nat → ClassId} {args : Array Value} {s : State} (hGT : GT D ca s) (hts : ∀ w ∈ ALLW, w.before args s = true) {L : List Cond} (h1 : ∀ w ∈ L.filter goodWord, w ∈ ALLW) (h2 : ∀ w ∈ L.filter (fun w => !goodWord w), isCD w = true ∧ w ∈ lw_tbl) : ∀ w ∈ L, w.before args s = true := by
  intro w hw
  cases hg : goodWord w with
  | true => exact hts w (h1 w (List.mem_filter.mpr ⟨hw, hg⟩))
  | false =>
    obtain ⟨hc, hm⟩ := h2 w (List.mem_filter.mpr ⟨hw, by rw [hg]; rfl⟩)
    cases w <;> first | (simp [isCD] at hc; done) | skip
    · exact (hGT.2.2.2.2.2.2 _ hm).use rfl
    · rename_i a z
      simp only [isCD, Bool.and_eq_true, Bool.or_eq_true, beq_iff_eq] at hc
      obtain ⟨rfl, h3⟩ := hc
      rcases h3 with rfl | rfl | rfl
      · exact (hGT.2.2.2.1 1 (by omega) (by omega)).use rfl
      · exact (hGT.2.2.2.1 2 (by omega) (by omega)).use rfl
      · exact (hGT.2.2.2.1 3 (by omega) (by omega)).use rfl
/-- what a method's end says, by the abstract machine's end -/
def EQ (ca : Nat → ClassId) (D : va_G) (A : Nat → Prop) (b L : Nat) (xs : Nat → Int32) (ρ0 : Nat → Nat) (n0 : Nat) (h : HP) (ρ : Nat → Nat) (t : State) : Prop :=
  (∀ a, a < n0 → ρ a = ρ0 a) ∧ n0 ≤ hN h ∧ va_P D vwCl (wso ca ρ h) t.heap ∧ va_D A (wso ca ρ h) ∧ HWF h ∧ ρ 1 = b ∧ hL h 1 = L ∧ ∀ i, i < L → hAI h 1 i = xs i
def RQ (ca : Nat → ClassId) (D : va_G) (A : Nat → Prop) (b L : Nat) (xs : Nat → Int32) (ρ0 : Nat → Nat) (n0 : Nat) (o : Out) (h : HP) : Array Value → State → Outcome → State → Prop := fun _ st oc t =>
  (∃ (v : Option Value) (ρ : Nat → Nat), o = .inl v ∧ oc = .returned (v.map (tr ρ)) ∧ VS (hN h) v.toList ∧ EQ ca D A b L xs ρ0 n0 h ρ t) ∧ va_F A st t
def RX (ca : Nat → ClassId) (D : va_G) (A : Nat → Prop) (b L : Nat) (xs : Nat → Int32) (ρ0 : Nat → Nat) (n0 : Nat) (o : Out) (h : HP) : String → State → State → Prop := fun E st t =>
  (∃ (x : Nat) (ρ : Nat → Nat), o = .inr x ∧ 1 ≤ x ∧ x ≤ 3 ∧ E = exN x ∧ EQ ca D A b L xs ρ0 n0 h ρ t) ∧ va_F A st t
def PQ (ca : Nat → ClassId) (D : va_G) (b L : Nat) (xs : Nat → Int32) (ρ0 : Nat → Nat) (h : HP) (as : List Value) (sz : Nat) : Array Value → State → Prop :=
  va_Pc (as.map (tr ρ0)) (fun U => U.heap.size = sz ∧ va_P D vwCl (wso ca ρ0 h) U.heap ∧ va_D (fun _ => True) (wso ca ρ0 h) ∧ HWF h ∧ ρ0 1 = b ∧ hL h 1 = L ∧ (∀ i, i < L → hAI h 1 i = xs i) ∧ GT D ca U ∧ GH (va_A (wso ca ρ0 h) sz) b L xs U U.heap)
theorem PQ_blind {ca : Nat → ClassId} {D : va_G} {b L : Nat} {xs : Nat → Int32} {ρ0 : Nat → Nat} {h : HP} {as : List Value} {sz : Nat} : FrameBlind (PQ ca D b L xs ρ0 h as sz) := by
  intro a U g mk q
  obtain ⟨q0, q1, q2, q3, q4, q5, q6, q7, q8, q9⟩ := q
  exact ⟨q0, q1, q2, q3, q4, q5, q6, q7, GT.warm (s := U) (U := U.calling g mk a) (State.WarmedH.refl U) q8, GH.moved (u := U) (U := U.calling g mk a) (Vm.Alike.refl U.vm) q9⟩
def rmOf (d mc ms : Nat) : Room := { frames := d + 8, cells := mc, slots := ms, locals := 100 + 40 * d }
def wsm (y : MI) : List Cond := cw y :: ALLW
theorem wsm_good (y : MI) {w : Cond} (h : w ∈ wsm y) : goodWord w = true := by
  rcases List.mem_cons.mp h with rfl | h
  · exact cw_good y
  · exact allw_good h
/-- the contract of a method's run -/
def CON (l : Launch) (d : Nat) (y : MI) (as : List Value) (h : HP) (o : Out) (h' : HP) : Prop :=
  ∀ (ca : Nat → ClassId) (D : va_G) (b L : Nat) (xs : Nat → Int32) (ρ0 : Nat → Nat) (sz mc ms : Nat), VS (hN h) as → hC h' = hC h + mc → hZ h' = hZ h + ms →
    ((∀ v, o = .inl v → Met l (mNm y) (wsm y) (rmOf d mc ms) (PQ ca D b L xs ρ0 h as sz) (RQ ca D (va_A (wso ca ρ0 h) sz) b L xs ρ0 (hN h) o h') mc ms (va_A (wso ca ρ0 h) sz)) ∧
     (∀ x, o = .inr x → (mHH y).isEmpty = true → vx_Met l (mNm y) (wsm y) (rmOf d mc ms) (PQ ca D b L xs ρ0 h as sz) (RQ ca D (va_A (wso ca ρ0 h) sz) b L xs ρ0 (hN h) o h') (RX ca D (va_A (wso ca ρ0 h) sz) b L xs ρ0 (hN h) o h') mc ms (va_A (wso ca ρ0 h) sz)))
/-- heaps only grow -/
def GRW (h h' : HP) : Prop := hN h ≤ hN h' ∧ hC h ≤ hC h' ∧ hZ h ≤ hZ h'
theorem GRW.rf (h : HP) : GRW h h := ⟨Nat.le_refl _, Nat.le_refl _, Nat.le_refl _⟩
theorem GRW.tr {h1 h2 h3 : HP} (a : GRW h1 h2) (c : GRW h2 h3) : GRW h1 h3 := ⟨Nat.le_trans a.1 c.1, Nat.le_trans a.2.1 c.2.1, Nat.le_trans a.2.2 c.2.2⟩
theorem GRW.nw (h : HP) (k ln sz : Nat) : GRW h (nw h k ln sz) := ⟨by rw [hN_nw]; omega, by rw [hC_nw]; omega, by rw [hZ_nw]; omega⟩
theorem fsv_grw {h h1 : HP} {ci k a : Nat} {v : Value} (hs : fsv h ci k a v = some h1) : GRW h h1 := by
  unfold fsv at hs
  split at hs
  · cases hs; exact GRW.rf h
  · split at hs
    · cases hs; exact GRW.rf h
    · cases hs
  · cases hs; exact GRW.rf h
  · cases hs; exact GRW.rf h
  · cases hs
def srH (h : HP) (r : SR) : HP := match r with
  | .inl q => q.2.2.2
  | .inr (.inl _) => h
  | .inr (.inr q) => q.2
theorem gLo {b : Bool} {r : Option SR} {x : SR} (q : gL b r = some x) : r = some x := (gL_some q).2
theorem stp_grw {y : MI} {i : Instr} {len pc : Nat} {lo : Lo} {st : List Value} {h : HP} {r : SR} (hs : stpR y i len pc lo st h = some r) : GRW h (srH h r) := by
  cases i <;> simp only [stpR] at hs
  all_goals first
    | cases hs
    | skip
  all_goals try simp only [ldI, ldF, ldA, stI, stF, stA, ii2, ff2, br, cll] at hs
  all_goals repeat' first
    | (replace hs := gLo hs)
    | split at hs
  all_goals try (unfold go at hs)
  all_goals first
    | (cases hs; done)
    | (cases hs; exact GRW.rf _)
    | (cases hs; exact GRW.nw _ _ _ _)
    | (cases hs; rename_i hf; exact fsv_grw hf)
    | (cases hs; exact ⟨Nat.le_refl _, Nat.le_succ _, Nat.le_add_right _ _⟩)
theorem ex_grw : ∀ (n d : Nat) (y : MI) (pc : Nat) (lo : Lo) (st : List Value) (h : HP) (r : Out × HP), ex n d y pc lo st h = some r → GRW h r.2 := by
  intro n
  induction n with
  | zero => intro d y pc ls st h r hr; simp [ex] at hr
  | succ n ih =>
    intro d y pc ls st h r hr
    rw [ex] at hr
    cases hd : decode (mCode y) pc with
    | error e => rw [hd] at hr; simp at hr
    | ok il =>
      obtain ⟨i, len⟩ := il
      rw [hd] at hr
      simp only at hr
      cases hs : stpR y i len pc ls st h with
      | none => rw [hs] at hr; simp at hr
      | some sr =>
        rw [hs] at hr
        have hg := stp_grw hs
        rcases sr with ⟨pc', ls', st', h'⟩ | ⟨z, as, rest⟩ | r'
        · simp only at hr
          exact hg.tr (ih _ _ _ _ _ _ _ hr)
        · simp only at hr
          cases d with
          | zero => simp at hr
          | succ d' =>
            simp only at hr
            by_cases hl : as.length ≤ mML z
            · rw [if_pos hl] at hr
              cases hc : ex n d' z 0 (ent z as) [] h with
              | none => rw [hc] at hr; simp at hr
              | some q =>
                rw [hc] at hr
                have h1 := ih _ _ _ _ _ _ _ hc
                obtain ⟨o, h'⟩ := q
                rcases o with v | e
                · simp only at hr
                  exact h1.tr (ih _ _ _ _ _ _ _ hr)
                · simp only at hr
                  by_cases hz : (mHH z).isEmpty = true ∧ mIni z = false
                  case neg => rw [if_neg hz] at hr; simp at hr
                  rw [if_pos hz] at hr
                  cases hh : hnd y pc e with
                  | none =>
                    rw [hh] at hr
                    simp only at hr
                    split at hr
                    · cases hr; exact h1
                    · cases hr
                  | some q0 =>
                    rw [hh] at hr
                    simp only at hr
                    cases hq : hdl y pc e ls with
                    | none => rw [hq] at hr; simp at hr
                    | some pl =>
                      rw [hq] at hr
                      obtain ⟨pc', ls'⟩ := pl
                      simp only at hr
                      exact h1.tr (ih _ _ _ _ _ _ _ hr)
            · rw [if_neg hl] at hr; simp at hr
        · simp only [Option.some.injEq] at hr
          subst hr
          exact hg
section SND6
variable {p : Program} {l : Launch} {e : Env} {R : Room} {s : State} {m : MethodId} {args : Array Value} {below : List Frame} {meth : Method} {c : Code} {A : Nat → Prop} {D : va_G} {ca : Nat → ClassId} {y : MI} {b L : Nat} {xs : Nat → Int32} {B1 B2 : Nat} {Q : State → Prop} {ρ0 : Nat → Nat} {n0 : Nat}
variable {i : Instr} {len pc pc' : Nat} {lo lo' : Lo} {st st' : List Value} {h h' : HP}
theorem step_snd (C : CX p l s m args meth c A D ca y b L xs) (hroom : 8 ≤ R.frames ∧ 100 ≤ R.locals) (hcap : hC h' ≤ R.cells + B1 ∧ hZ h' ≤ R.slots + B2) (hcap0 : hC h ≤ R.cells + B1 ∧ hZ h ≤ R.slots + B2) (hd : decode (mCode y) pc = .ok (i, len)) (hs : stpR y i len pc lo st h = some (.inl (pc', lo', st', h'))) (kk : WS p l e R s m args below meth c A D ca y b L xs B1 B2 Q ρ0 n0 pc' lo' st' h') : WS p l e R s m args below meth c A D ca y b L xs B1 B2 Q ρ0 n0 pc lo st h := by
  cases i
  case iconst n => exact sp_iconst C hd hs kk
  case bipush n => exact sp_bipush C hd hs kk
  case sipush n => exact sp_sipush C hd hs kk
  case lconst n => exact sp_lconst C hd hs kk
  case fconst n => exact sp_fconst C hd hs kk
  case aconst_null => exact sp_null C hd hs kk
  case iload k => exact sp_iload C hd hs kk
  case iload_n k => exact sp_iload_n C hd hs kk
  case fload k => exact sp_fload C hd hs kk
  case fload_n k => exact sp_fload_n C hd hs kk
  case aload k => exact sp_aload C hd hs kk
  case aload_n k => exact sp_aload_n C hd hs kk
  case istore k => exact sp_istore C hd hs kk
  case istore_n k => exact sp_istore_n C hd hs kk
  case fstore k => exact sp_fstore C hd hs kk
  case fstore_n k => exact sp_fstore_n C hd hs kk
  case astore k => exact sp_astore C hd hs kk
  case astore_n k => exact sp_astore_n C hd hs kk
  case iinc k n => exact sp_iinc C hd hs kk
  case iadd => exact sp_iadd C hd hs kk
  case isub => exact sp_isub C hd hs kk
  case imul => exact sp_imul C hd hs kk
  case iand => exact sp_iand C hd hs kk
  case ior => exact sp_ior C hd hs kk
  case ixor => exact sp_ixor C hd hs kk
  case ishl => exact sp_ishl C hd hs kk
  case ishr => exact sp_ishr C hd hs kk
  case iushr => exact sp_iushr C hd hs kk
  case idiv => exact sp_idiv C hd hs kk
  case fadd => exact sp_fadd C hd hs kk
  case fsub => exact sp_fsub C hd hs kk
  case fmul => exact sp_fmul C hd hs kk
  case fdiv => exact sp_fdiv C hd hs kk
  case fcmp op => exact sp_fcmp C hd hs kk
  case dcmp op => exact sp_dcmp C hd hs kk
  case lcmp => exact sp_lcmp C hd hs kk
  case i2l => exact sp_i2l C hd hs kk
  case i2f => exact sp_i2f C hd hs kk
  case f2d => exact sp_f2d C hd hs kk
  case dup => exact sp_dup C hd hs kk
  case dup2 => exact sp_dup2 C hd hs kk
  case pop => exact sp_pop C hd hs kk
  case ifCond c off => exact sp_if C hd hs kk
  case if_icmp c off => exact sp_icmp C hd hs kk
  case ifnull off => exact sp_ifnull C hd hs kk
  case ifnonnull off => exact sp_ifnonnull C hd hs kk
  case goto off => exact sp_goto C hd hs kk
  case tableswitch d lw hg offs => exact sp_switch C hd hs kk
  case iaload => exact sp_iaload C hd hs kk
  case baload => exact sp_baload C hd hs kk
  case faload => exact sp_faload C hd hs kk
  case laload => exact sp_laload C hd hs kk
  case daload => exact sp_daload C hd hs kk
  case aaload => exact sp_aaload C hd hs kk
  case iastore => exact sp_iastore C hd hs kk
  case bastore => exact sp_bastore C hd hs kk
  case fastore => exact sp_fastore C hd hs kk
  case lastore => exact sp_lastore C hd hs kk
  case dastore => exact sp_dastore C hd hs kk
  case aastore => exact sp_aastore C hd hs kk
  case arraylength => exact sp_alen C hd hs kk
  case getfield j => exact sp_getfield C hd hs kk
  case putfield j => exact sp_putfield C hd hs kk
  case new j => exact sp_new C hcap hd hs kk
  case newarray t => exact sp_newarray C hcap hd hs kk
  case anewarray j => exact sp_anewarray C hcap hd hs kk
  case ldc j => exact sp_ldc C hd hs kk
  case ldc_w j => exact sp_ldc_w C hd hs kk
  case invokespecial j => exact sp_special C hroom hd hs kk
  case invokestatic j => exact sp_static C hroom hcap hd hs kk
  case invokevirtual j =>
    simp only [stpR] at hs
    repeat' first
      | (replace hs := gLo hs)
      | split at hs
    all_goals first
      | (cases hs; done)
      | (unfold cll at hs; replace hs := gLo hs; cases hs)
  case ireturn =>
    simp only [stpR] at hs
    repeat' first
      | (replace hs := gLo hs)
      | split at hs
    all_goals (cases hs; done)
  case freturn =>
    simp only [stpR] at hs
    repeat' first
      | (replace hs := gLo hs)
      | split at hs
    all_goals (cases hs; done)
  case areturn =>
    simp only [stpR] at hs
    repeat' first
      | (replace hs := gLo hs)
      | split at hs
    all_goals (cases hs; done)
  case return_ =>
    simp only [stpR] at hs
    repeat' first
      | (replace hs := gLo hs)
      | split at hs
    all_goals (cases hs; done)
  all_goals (simp [stpR] at hs)
end SND6
