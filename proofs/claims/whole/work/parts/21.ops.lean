/-! ===== one rule for each instruction ===== -/
section OPS
variable {d : Nat} {y : MI} {pc pc' len : Nat} {lo : Lo} {st : List Value} {h : HP} {Q : Out → HP → Prop} {i : Instr}
theorem w_s {lo' : Lo} {st' : List Value} {h' : HP} (hd : decode (mCode y) pc = .ok (i, len)) (hs : stpR y i len pc lo st h = some (.inl (pc', lo', st', h'))) (k : WP d y pc' lo' st' h' Q) : WP d y pc lo st h Q := by
  rw [wp_eq hd hs]; exact k
theorem w_iconst {n : Int} {v : Int32} (hd : decode (mCode y) pc = .ok (.iconst n, 1)) (hv : Int32.ofInt n = v) (k : WP d y (pc + 1) (lo) (.int v :: st) (h) Q) : WP d y pc lo (st) h Q := w_s hd (by subst hv; rfl) k
theorem w_bipush {n : Int} {v : Int32} (hd : decode (mCode y) pc = .ok (.bipush n, 2)) (hv : (Int8.ofInt n).toInt32 = v) (k : WP d y (pc + 2) (lo) (.int v :: st) (h) Q) : WP d y pc lo (st) h Q := w_s hd (by subst hv; rfl) k
theorem w_sipush {n : Int} {v : Int32} (hd : decode (mCode y) pc = .ok (.sipush n, 3)) (hv : (Int16.ofInt n).toInt32 = v) (k : WP d y (pc + 3) (lo) (.int v :: st) (h) Q) : WP d y pc lo (st) h Q := w_s hd (by subst hv; rfl) k
theorem w_lconst0  (hd : decode (mCode y) pc = .ok (.lconst 0, 1))  (k : WP d y (pc + 1) (lo) (.long 0 :: st) (h) Q) : WP d y pc lo (st) h Q := w_s hd (rfl) k
theorem w_lconst1  (hd : decode (mCode y) pc = .ok (.lconst 1, 1))  (k : WP d y (pc + 1) (lo) (.long 1 :: st) (h) Q) : WP d y pc lo (st) h Q := w_s hd (rfl) k
theorem w_fconst0  (hd : decode (mCode y) pc = .ok (.fconst 0, 1))  (k : WP d y (pc + 1) (lo) (.float FP.fconst0 :: st) (h) Q) : WP d y pc lo (st) h Q := w_s hd (rfl) k
theorem w_fconst1  (hd : decode (mCode y) pc = .ok (.fconst 1, 1))  (k : WP d y (pc + 1) (lo) (.float FP.fconst1 :: st) (h) Q) : WP d y pc lo (st) h Q := w_s hd (rfl) k
theorem w_null  (hd : decode (mCode y) pc = .ok (.aconst_null, 1))  (k : WP d y (pc + 1) (lo) (.ref 0 :: st) (h) Q) : WP d y pc lo (st) h Q := w_s hd (rfl) k
theorem w_iload {x : Int32} {k : Nat} (hd : decode (mCode y) pc = .ok (.iload k, 2)) (hl : lo[k]? = some (some (.int x))) (k : WP d y (pc + 2) (lo) (.int x :: st) (h) Q) : WP d y pc lo (st) h Q := w_s hd (by simp [stpR, ldI, gL, hl, go]) k
theorem w_iload_n {x : Int32} {k : Fin 4} (hd : decode (mCode y) pc = .ok (.iload_n k, 1)) (hl : lo[(k : Nat)]? = some (some (.int x))) (k : WP d y (pc + 1) (lo) (.int x :: st) (h) Q) : WP d y pc lo (st) h Q := w_s hd (by simp [stpR, ldI, gL, hl, go]) k
theorem w_istore {x : Int32} {k : Nat} {lo' : Lo} (hd : decode (mCode y) pc = .ok (.istore k, 2)) (hk : (k : Nat) < lo.length) (hl : lo.set (k : Nat) (some (.int x)) = lo') (k : WP d y (pc + 2) (lo') (st) (h) Q) : WP d y pc lo (.int x :: st) h Q := w_s hd (by subst hl; simp [stpR, stI, gL, hk, go]) k
theorem w_istore_n {x : Int32} {k : Fin 4} {lo' : Lo} (hd : decode (mCode y) pc = .ok (.istore_n k, 1)) (hk : (k : Nat) < lo.length) (hl : lo.set (k : Nat) (some (.int x)) = lo') (k : WP d y (pc + 1) (lo') (st) (h) Q) : WP d y pc lo (.int x :: st) h Q := w_s hd (by subst hl; simp [stpR, stI, gL, hk, go]) k
theorem w_fload {x : UInt32} {k : Nat} (hd : decode (mCode y) pc = .ok (.fload k, 2)) (hl : lo[k]? = some (some (.float x))) (k : WP d y (pc + 2) (lo) (.float x :: st) (h) Q) : WP d y pc lo (st) h Q := w_s hd (by simp [stpR, ldF, gL, hl, go]) k
theorem w_fload_n {x : UInt32} {k : Fin 4} (hd : decode (mCode y) pc = .ok (.fload_n k, 1)) (hl : lo[(k : Nat)]? = some (some (.float x))) (k : WP d y (pc + 1) (lo) (.float x :: st) (h) Q) : WP d y pc lo (st) h Q := w_s hd (by simp [stpR, ldF, gL, hl, go]) k
theorem w_fstore {x : UInt32} {k : Nat} {lo' : Lo} (hd : decode (mCode y) pc = .ok (.fstore k, 2)) (hk : (k : Nat) < lo.length) (hl : lo.set (k : Nat) (some (.float x)) = lo') (k : WP d y (pc + 2) (lo') (st) (h) Q) : WP d y pc lo (.float x :: st) h Q := w_s hd (by subst hl; simp [stpR, stF, gL, hk, go]) k
theorem w_fstore_n {x : UInt32} {k : Fin 4} {lo' : Lo} (hd : decode (mCode y) pc = .ok (.fstore_n k, 1)) (hk : (k : Nat) < lo.length) (hl : lo.set (k : Nat) (some (.float x)) = lo') (k : WP d y (pc + 1) (lo') (st) (h) Q) : WP d y pc lo (.float x :: st) h Q := w_s hd (by subst hl; simp [stpR, stF, gL, hk, go]) k
theorem w_aload {x : Nat} {k : Nat} (hd : decode (mCode y) pc = .ok (.aload k, 2)) (hl : lo[k]? = some (some (.ref x))) (k : WP d y (pc + 2) (lo) (.ref x :: st) (h) Q) : WP d y pc lo (st) h Q := w_s hd (by simp [stpR, ldA, gL, hl, go]) k
theorem w_aload_n {x : Nat} {k : Fin 4} (hd : decode (mCode y) pc = .ok (.aload_n k, 1)) (hl : lo[(k : Nat)]? = some (some (.ref x))) (k : WP d y (pc + 1) (lo) (.ref x :: st) (h) Q) : WP d y pc lo (st) h Q := w_s hd (by simp [stpR, ldA, gL, hl, go]) k
theorem w_astore {x : Nat} {k : Nat} {lo' : Lo} (hd : decode (mCode y) pc = .ok (.astore k, 2)) (hk : (k : Nat) < lo.length) (hl : lo.set (k : Nat) (some (.ref x)) = lo') (k : WP d y (pc + 2) (lo') (st) (h) Q) : WP d y pc lo (.ref x :: st) h Q := w_s hd (by subst hl; simp [stpR, stA, gL, hk, go]) k
theorem w_astore_n {x : Nat} {k : Fin 4} {lo' : Lo} (hd : decode (mCode y) pc = .ok (.astore_n k, 1)) (hk : (k : Nat) < lo.length) (hl : lo.set (k : Nat) (some (.ref x)) = lo') (k : WP d y (pc + 1) (lo') (st) (h) Q) : WP d y pc lo (.ref x :: st) h Q := w_s hd (by subst hl; simp [stpR, stA, gL, hk, go]) k
theorem w_iinc {x v : Int32} {k : Nat} {n : Int} {lo' : Lo} (hd : decode (mCode y) pc = .ok (.iinc k n, 3)) (hl : lo[k]? = some (some (.int x))) (hv : Int32.ofInt n = v) (hl' : lo.set k (some (.int (x + v))) = lo') (k : WP d y (pc + 3) (lo') (st) (h) Q) : WP d y pc lo (st) h Q := w_s hd (by subst hv; subst hl'; simp [stpR, gL, hl, go]) k
theorem w_iadd {x y1 : Int32} (hd : decode (mCode y) pc = .ok (.iadd, 1))  (k : WP d y (pc + 1) (lo) (.int (x + y1) :: st) (h) Q) : WP d y pc lo (.int y1 :: .int x :: st) h Q := w_s hd (rfl) k
theorem w_isub {x y1 : Int32} (hd : decode (mCode y) pc = .ok (.isub, 1))  (k : WP d y (pc + 1) (lo) (.int (x - y1) :: st) (h) Q) : WP d y pc lo (.int y1 :: .int x :: st) h Q := w_s hd (rfl) k
theorem w_imul {x y1 : Int32} (hd : decode (mCode y) pc = .ok (.imul, 1))  (k : WP d y (pc + 1) (lo) (.int (x * y1) :: st) (h) Q) : WP d y pc lo (.int y1 :: .int x :: st) h Q := w_s hd (rfl) k
theorem w_iand {x y1 : Int32} (hd : decode (mCode y) pc = .ok (.iand, 1))  (k : WP d y (pc + 1) (lo) (.int (x &&& y1) :: st) (h) Q) : WP d y pc lo (.int y1 :: .int x :: st) h Q := w_s hd (rfl) k
theorem w_ior {x y1 : Int32} (hd : decode (mCode y) pc = .ok (.ior, 1))  (k : WP d y (pc + 1) (lo) (.int (x ||| y1) :: st) (h) Q) : WP d y pc lo (.int y1 :: .int x :: st) h Q := w_s hd (rfl) k
theorem w_ixor {x y1 : Int32} (hd : decode (mCode y) pc = .ok (.ixor, 1))  (k : WP d y (pc + 1) (lo) (.int (x ^^^ y1) :: st) (h) Q) : WP d y pc lo (.int y1 :: .int x :: st) h Q := w_s hd (rfl) k
theorem w_ishl {x y1 : Int32} (hd : decode (mCode y) pc = .ok (.ishl, 1))  (k : WP d y (pc + 1) (lo) (.int (x <<< (y1 &&& 31)) :: st) (h) Q) : WP d y pc lo (.int y1 :: .int x :: st) h Q := w_s hd (rfl) k
theorem w_ishr {x y1 : Int32} (hd : decode (mCode y) pc = .ok (.ishr, 1))  (k : WP d y (pc + 1) (lo) (.int (x >>> (y1 &&& 31)) :: st) (h) Q) : WP d y pc lo (.int y1 :: .int x :: st) h Q := w_s hd (rfl) k
theorem w_iushr {x y1 : Int32} (hd : decode (mCode y) pc = .ok (.iushr, 1))  (k : WP d y (pc + 1) (lo) (.int ((x.toUInt32 >>> (y1.toUInt32 &&& Int32.toUInt32 31)).toInt32) :: st) (h) Q) : WP d y pc lo (.int y1 :: .int x :: st) h Q := w_s hd (rfl) k
theorem w_idiv {x y1 : Int32} (hd : decode (mCode y) pc = .ok (.idiv, 1)) (hy : y1 ≠ 0) (k : WP d y (pc + 1) (lo) (.int (x / y1) :: st) (h) Q) : WP d y pc lo (.int y1 :: .int x :: st) h Q := w_s hd (by simp [stpR, gL, hy, go]) k
theorem w_fadd {x y1 : UInt32} (hd : decode (mCode y) pc = .ok (.fadd, 1)) (hn : nn32 (FP.fadd x y1) = true) (k : WP d y (pc + 1) (lo) (.float (FP.fadd x y1) :: st) (h) Q) : WP d y pc lo (.float y1 :: .float x :: st) h Q := w_s hd (by simp [stpR, ff2, gL, hn, go]) k
theorem w_fsub {x y1 : UInt32} (hd : decode (mCode y) pc = .ok (.fsub, 1)) (hn : nn32 (FP.fsub x y1) = true) (k : WP d y (pc + 1) (lo) (.float (FP.fsub x y1) :: st) (h) Q) : WP d y pc lo (.float y1 :: .float x :: st) h Q := w_s hd (by simp [stpR, ff2, gL, hn, go]) k
theorem w_fmul {x y1 : UInt32} (hd : decode (mCode y) pc = .ok (.fmul, 1)) (hn : nn32 (FP.fmul x y1) = true) (k : WP d y (pc + 1) (lo) (.float (FP.fmul x y1) :: st) (h) Q) : WP d y pc lo (.float y1 :: .float x :: st) h Q := w_s hd (by simp [stpR, ff2, gL, hn, go]) k
theorem w_fdiv {x y1 : UInt32} (hd : decode (mCode y) pc = .ok (.fdiv, 1)) (hn : nn32 (FP.fdiv x y1) = true) (k : WP d y (pc + 1) (lo) (.float (FP.fdiv x y1) :: st) (h) Q) : WP d y pc lo (.float y1 :: .float x :: st) h Q := w_s hd (by simp [stpR, ff2, gL, hn, go]) k
theorem w_fcmp {x y1 : UInt32} {op : CmpOp} (hd : decode (mCode y) pc = .ok (.fcmp op, 1))  (k : WP d y (pc + 1) (lo) (.int (Op.cmpValue (FP.fcmp x y1) op) :: st) (h) Q) : WP d y pc lo (.float y1 :: .float x :: st) h Q := w_s hd (rfl) k
theorem w_dcmp {x y1 : UInt64} {op : CmpOp} (hd : decode (mCode y) pc = .ok (.dcmp op, 1))  (k : WP d y (pc + 1) (lo) (.int (Op.cmpValue (FP.dcmp x y1) op) :: st) (h) Q) : WP d y pc lo (.double y1 :: .double x :: st) h Q := w_s hd (rfl) k
theorem w_lcmp {x y1 : Int64} (hd : decode (mCode y) pc = .ok (.lcmp, 1))  (k : WP d y (pc + 1) (lo) (.int (lg_cmp x y1) :: st) (h) Q) : WP d y pc lo (.long y1 :: .long x :: st) h Q := w_s hd (rfl) k
theorem w_i2l {x : Int32} (hd : decode (mCode y) pc = .ok (.i2l, 1))  (k : WP d y (pc + 1) (lo) (.long x.toInt64 :: st) (h) Q) : WP d y pc lo (.int x :: st) h Q := w_s hd (rfl) k
theorem w_i2f {x : Int32} (hd : decode (mCode y) pc = .ok (.i2f, 1))  (k : WP d y (pc + 1) (lo) (.float (FP.i2f x) :: st) (h) Q) : WP d y pc lo (.int x :: st) h Q := w_s hd (rfl) k
theorem w_f2d {x : UInt32} (hd : decode (mCode y) pc = .ok (.f2d, 1)) (hn : nn64 (FP.f2d x) = true) (k : WP d y (pc + 1) (lo) (.double (FP.f2d x) :: st) (h) Q) : WP d y pc lo (.float x :: st) h Q := w_s hd (by simp [stpR, gL, hn, go]) k
theorem w_dup {v : Value} (hd : decode (mCode y) pc = .ok (.dup, 1)) (hc : c1 v = true) (k : WP d y (pc + 1) (lo) (v :: v :: st) (h) Q) : WP d y pc lo (v :: st) h Q := w_s hd (by simp [stpR, gL, hc, go]) k
theorem w_dup2 {v w : Value} (hd : decode (mCode y) pc = .ok (.dup2, 1)) (hc : c1 v = true) (hw : c1 w = true) (k : WP d y (pc + 1) (lo) (v :: w :: v :: w :: st) (h) Q) : WP d y pc lo (v :: w :: st) h Q := w_s hd (by simp [stpR, gL, hc, hw, go]) k
theorem w_pop {v : Value} (hd : decode (mCode y) pc = .ok (.pop, 1)) (hc : c1 v = true) (k : WP d y (pc + 1) (lo) (st) (h) Q) : WP d y pc lo (v :: st) h Q := w_s hd (by simp [stpR, gL, hc, go]) k
theorem w_if_eq {x : Int32} {off : Int} (hd : decode (mCode y) pc = .ok (.ifCond .eq off, 3)) (hj : jok pc off = true) (hp : jmp pc off = pc') (k : ((x = 0) → WP d y pc' lo st h Q) ∧ (¬ (x = 0) → WP d y (pc + 3) lo st h Q)) : WP d y pc lo (.int x :: st) h Q := by
  by_cases hc : x = 0
  · exact w_s hd (by subst hp; simp only [stpR, br, gL, hj, go]; simp [hc]) (k.1 hc)
  · exact w_s hd (by simp only [stpR, br, gL, hj, go]; simp [hc]) (k.2 hc)
theorem w_ic_eq {x y1 : Int32} {off : Int} (hd : decode (mCode y) pc = .ok (.if_icmp .eq off, 3)) (hj : jok pc off = true) (hp : jmp pc off = pc') (k : ((x = y1) → WP d y pc' lo st h Q) ∧ (¬ (x = y1) → WP d y (pc + 3) lo st h Q)) : WP d y pc lo (.int y1 :: .int x :: st) h Q := by
  by_cases hc : x = y1
  · exact w_s hd (by subst hp; simp only [stpR, br, gL, hj, go]; simp [hc]) (k.1 hc)
  · exact w_s hd (by simp only [stpR, br, gL, hj, go]; simp [hc]) (k.2 hc)
theorem w_if_ne {x : Int32} {off : Int} (hd : decode (mCode y) pc = .ok (.ifCond .ne off, 3)) (hj : jok pc off = true) (hp : jmp pc off = pc') (k : ((¬ x = 0) → WP d y pc' lo st h Q) ∧ (¬ (¬ x = 0) → WP d y (pc + 3) lo st h Q)) : WP d y pc lo (.int x :: st) h Q := by
  by_cases hc : ¬ x = 0
  · exact w_s hd (by subst hp; simp only [stpR, br, gL, hj, go]; simp [hc]) (k.1 hc)
  · exact w_s hd (by simp only [stpR, br, gL, hj, go]; simp [hc]) (k.2 hc)
theorem w_ic_ne {x y1 : Int32} {off : Int} (hd : decode (mCode y) pc = .ok (.if_icmp .ne off, 3)) (hj : jok pc off = true) (hp : jmp pc off = pc') (k : ((¬ x = y1) → WP d y pc' lo st h Q) ∧ (¬ (¬ x = y1) → WP d y (pc + 3) lo st h Q)) : WP d y pc lo (.int y1 :: .int x :: st) h Q := by
  by_cases hc : ¬ x = y1
  · exact w_s hd (by subst hp; simp only [stpR, br, gL, hj, go]; simp [hc]) (k.1 hc)
  · exact w_s hd (by simp only [stpR, br, gL, hj, go]; simp [hc]) (k.2 hc)
theorem w_if_lt {x : Int32} {off : Int} (hd : decode (mCode y) pc = .ok (.ifCond .lt off, 3)) (hj : jok pc off = true) (hp : jmp pc off = pc') (k : ((x < 0) → WP d y pc' lo st h Q) ∧ (¬ (x < 0) → WP d y (pc + 3) lo st h Q)) : WP d y pc lo (.int x :: st) h Q := by
  by_cases hc : x < 0
  · exact w_s hd (by subst hp; simp only [stpR, br, gL, hj, go]; simp [hc]) (k.1 hc)
  · exact w_s hd (by simp only [stpR, br, gL, hj, go]; simp [hc]) (k.2 hc)
theorem w_ic_lt {x y1 : Int32} {off : Int} (hd : decode (mCode y) pc = .ok (.if_icmp .lt off, 3)) (hj : jok pc off = true) (hp : jmp pc off = pc') (k : ((x < y1) → WP d y pc' lo st h Q) ∧ (¬ (x < y1) → WP d y (pc + 3) lo st h Q)) : WP d y pc lo (.int y1 :: .int x :: st) h Q := by
  by_cases hc : x < y1
  · exact w_s hd (by subst hp; simp only [stpR, br, gL, hj, go]; simp [hc]) (k.1 hc)
  · exact w_s hd (by simp only [stpR, br, gL, hj, go]; simp [hc]) (k.2 hc)
theorem w_if_ge {x : Int32} {off : Int} (hd : decode (mCode y) pc = .ok (.ifCond .ge off, 3)) (hj : jok pc off = true) (hp : jmp pc off = pc') (k : ((0 ≤ x) → WP d y pc' lo st h Q) ∧ (¬ (0 ≤ x) → WP d y (pc + 3) lo st h Q)) : WP d y pc lo (.int x :: st) h Q := by
  by_cases hc : 0 ≤ x
  · exact w_s hd (by subst hp; simp only [stpR, br, gL, hj, go]; simp [hc]) (k.1 hc)
  · exact w_s hd (by simp only [stpR, br, gL, hj, go]; simp [hc]) (k.2 hc)
theorem w_ic_ge {x y1 : Int32} {off : Int} (hd : decode (mCode y) pc = .ok (.if_icmp .ge off, 3)) (hj : jok pc off = true) (hp : jmp pc off = pc') (k : ((y1 ≤ x) → WP d y pc' lo st h Q) ∧ (¬ (y1 ≤ x) → WP d y (pc + 3) lo st h Q)) : WP d y pc lo (.int y1 :: .int x :: st) h Q := by
  by_cases hc : y1 ≤ x
  · exact w_s hd (by subst hp; simp only [stpR, br, gL, hj, go]; simp [hc]) (k.1 hc)
  · exact w_s hd (by simp only [stpR, br, gL, hj, go]; simp [hc]) (k.2 hc)
theorem w_if_gt {x : Int32} {off : Int} (hd : decode (mCode y) pc = .ok (.ifCond .gt off, 3)) (hj : jok pc off = true) (hp : jmp pc off = pc') (k : ((0 < x) → WP d y pc' lo st h Q) ∧ (¬ (0 < x) → WP d y (pc + 3) lo st h Q)) : WP d y pc lo (.int x :: st) h Q := by
  by_cases hc : 0 < x
  · exact w_s hd (by subst hp; simp only [stpR, br, gL, hj, go]; simp [hc]) (k.1 hc)
  · exact w_s hd (by simp only [stpR, br, gL, hj, go]; simp [hc]) (k.2 hc)
theorem w_ic_gt {x y1 : Int32} {off : Int} (hd : decode (mCode y) pc = .ok (.if_icmp .gt off, 3)) (hj : jok pc off = true) (hp : jmp pc off = pc') (k : ((y1 < x) → WP d y pc' lo st h Q) ∧ (¬ (y1 < x) → WP d y (pc + 3) lo st h Q)) : WP d y pc lo (.int y1 :: .int x :: st) h Q := by
  by_cases hc : y1 < x
  · exact w_s hd (by subst hp; simp only [stpR, br, gL, hj, go]; simp [hc]) (k.1 hc)
  · exact w_s hd (by simp only [stpR, br, gL, hj, go]; simp [hc]) (k.2 hc)
theorem w_if_le {x : Int32} {off : Int} (hd : decode (mCode y) pc = .ok (.ifCond .le off, 3)) (hj : jok pc off = true) (hp : jmp pc off = pc') (k : ((x ≤ 0) → WP d y pc' lo st h Q) ∧ (¬ (x ≤ 0) → WP d y (pc + 3) lo st h Q)) : WP d y pc lo (.int x :: st) h Q := by
  by_cases hc : x ≤ 0
  · exact w_s hd (by subst hp; simp only [stpR, br, gL, hj, go]; simp [hc]) (k.1 hc)
  · exact w_s hd (by simp only [stpR, br, gL, hj, go]; simp [hc]) (k.2 hc)
theorem w_ic_le {x y1 : Int32} {off : Int} (hd : decode (mCode y) pc = .ok (.if_icmp .le off, 3)) (hj : jok pc off = true) (hp : jmp pc off = pc') (k : ((x ≤ y1) → WP d y pc' lo st h Q) ∧ (¬ (x ≤ y1) → WP d y (pc + 3) lo st h Q)) : WP d y pc lo (.int y1 :: .int x :: st) h Q := by
  by_cases hc : x ≤ y1
  · exact w_s hd (by subst hp; simp only [stpR, br, gL, hj, go]; simp [hc]) (k.1 hc)
  · exact w_s hd (by simp only [stpR, br, gL, hj, go]; simp [hc]) (k.2 hc)
theorem w_ifnull {a : Nat} {off : Int} (hd : decode (mCode y) pc = .ok (.ifnull off, 3)) (hj : jok pc off = true) (hp : jmp pc off = pc') (k : ((a = 0) → WP d y pc' lo st h Q) ∧ (¬ (a = 0) → WP d y (pc + 3) lo st h Q)) : WP d y pc lo (.ref a :: st) h Q := by
  by_cases hc : a = 0
  · exact w_s hd (by subst hp; simp only [stpR, br, gL, hj, go]; simp [hc]) (k.1 hc)
  · exact w_s hd (by simp only [stpR, br, gL, hj, go]; simp [hc]) (k.2 hc)
theorem w_ifnonnull {a : Nat} {off : Int} (hd : decode (mCode y) pc = .ok (.ifnonnull off, 3)) (hj : jok pc off = true) (hp : jmp pc off = pc') (k : ((¬ a = 0) → WP d y pc' lo st h Q) ∧ (¬ (¬ a = 0) → WP d y (pc + 3) lo st h Q)) : WP d y pc lo (.ref a :: st) h Q := by
  by_cases hc : ¬ a = 0
  · exact w_s hd (by subst hp; simp only [stpR, br, gL, hj, go]; simp [hc]) (k.1 hc)
  · exact w_s hd (by simp only [stpR, br, gL, hj, go]; simp [hc]) (k.2 hc)
theorem w_goto {off : Int} (hd : decode (mCode y) pc = .ok (.goto off, 3)) (hj : jok pc off = true) (hp : jmp pc off = pc') (k : WP d y pc' lo st h Q) : WP d y pc lo st h Q := w_s hd (by subst hp; simp [stpR, gL, hj, go]) k
theorem w_iaload {a : Nat} {i1 : Int32} (hd : decode (mCode y) pc = .ok (.iaload, 1)) (hk : hK h a = 20) (hi : inA h a i1 = true) (k : WP d y (pc + 1) (lo) (.int (hAI h a i1.toNatClampNeg) :: st) (h) Q) : WP d y pc lo (.int i1 :: .ref a :: st) h Q := w_s hd (by simp [stpR, gL, hk, hi, go]) k
theorem w_iastore {a : Nat} {i1 : Int32} {x : Int32} (hd : decode (mCode y) pc = .ok (.iastore, 1)) (hk : hK h a = 20) (hi : inA h a i1 = true)  (k : WP d y (pc + 1) (lo) (st) (sAI h a i1.toNatClampNeg x) Q) : WP d y pc lo (.int x :: .int i1 :: .ref a :: st) h Q := w_s hd (by simp [stpR, gL, hk, hi, go]) k
theorem w_baload {a : Nat} {i1 : Int32} (hd : decode (mCode y) pc = .ok (.baload, 1)) (hk : hK h a = 21) (hi : inA h a i1 = true) (k : WP d y (pc + 1) (lo) (.int (hAI h a i1.toNatClampNeg) :: st) (h) Q) : WP d y pc lo (.int i1 :: .ref a :: st) h Q := w_s hd (by simp [stpR, gL, hk, hi, go]) k
theorem w_bastore {a : Nat} {i1 : Int32} {x : Int32} (hd : decode (mCode y) pc = .ok (.bastore, 1)) (hk : hK h a = 21) (hi : inA h a i1 = true) (hz : isZ x = true) (k : WP d y (pc + 1) (lo) (st) (sAI h a i1.toNatClampNeg x) Q) : WP d y pc lo (.int x :: .int i1 :: .ref a :: st) h Q := w_s hd (by simp [stpR, gL, hk, hi, go, hz]) k
theorem w_faload {a : Nat} {i1 : Int32} (hd : decode (mCode y) pc = .ok (.faload, 1)) (hk : hK h a = 22) (hi : inA h a i1 = true) (k : WP d y (pc + 1) (lo) (.float (hAF h a i1.toNatClampNeg) :: st) (h) Q) : WP d y pc lo (.int i1 :: .ref a :: st) h Q := w_s hd (by simp [stpR, gL, hk, hi, go]) k
theorem w_fastore {a : Nat} {i1 : Int32} {x : UInt32} (hd : decode (mCode y) pc = .ok (.fastore, 1)) (hk : hK h a = 22) (hi : inA h a i1 = true)  (k : WP d y (pc + 1) (lo) (st) (sAF h a i1.toNatClampNeg x) Q) : WP d y pc lo (.float x :: .int i1 :: .ref a :: st) h Q := w_s hd (by simp [stpR, gL, hk, hi, go]) k
theorem w_laload {a : Nat} {i1 : Int32} (hd : decode (mCode y) pc = .ok (.laload, 1)) (hk : hK h a = 23) (hi : inA h a i1 = true) (k : WP d y (pc + 1) (lo) (.long (hAL h a i1.toNatClampNeg) :: st) (h) Q) : WP d y pc lo (.int i1 :: .ref a :: st) h Q := w_s hd (by simp [stpR, gL, hk, hi, go]) k
theorem w_lastore {a : Nat} {i1 : Int32} {x : Int64} (hd : decode (mCode y) pc = .ok (.lastore, 1)) (hk : hK h a = 23) (hi : inA h a i1 = true)  (k : WP d y (pc + 1) (lo) (st) (sAL h a i1.toNatClampNeg x) Q) : WP d y pc lo (.long x :: .int i1 :: .ref a :: st) h Q := w_s hd (by simp [stpR, gL, hk, hi, go]) k
theorem w_daload {a : Nat} {i1 : Int32} (hd : decode (mCode y) pc = .ok (.daload, 1)) (hk : hK h a = 24) (hi : inA h a i1 = true) (k : WP d y (pc + 1) (lo) (.double (hAD h a i1.toNatClampNeg) :: st) (h) Q) : WP d y pc lo (.int i1 :: .ref a :: st) h Q := w_s hd (by simp [stpR, gL, hk, hi, go]) k
theorem w_dastore {a : Nat} {i1 : Int32} {x : UInt64} (hd : decode (mCode y) pc = .ok (.dastore, 1)) (hk : hK h a = 24) (hi : inA h a i1 = true)  (k : WP d y (pc + 1) (lo) (st) (sAD h a i1.toNatClampNeg x) Q) : WP d y pc lo (.double x :: .int i1 :: .ref a :: st) h Q := w_s hd (by simp [stpR, gL, hk, hi, go]) k
theorem w_iaload19 {a : Nat} {i1 : Int32} (hd : decode (mCode y) pc = .ok (.iaload, 1)) (hk : hK h a = 19) (hi : inA h a i1 = true) (k : WP d y (pc + 1) (lo) (.int (hAI h a i1.toNatClampNeg) :: st) (h) Q) : WP d y pc lo (.int i1 :: .ref a :: st) h Q := w_s hd (by simp [stpR, gL, hk, hi, go]) k
theorem w_aaload {a kd : Nat} {i1 : Int32} (hd : decode (mCode y) pc = .ok (.aaload, 1)) (hk : hK h a = kd) (hi : inA h a i1 = true) (h1 : 25 ≤ kd) (h2 : kd ≤ 29) (k : WP d y (pc + 1) (lo) (.ref (hAR h a i1.toNatClampNeg) :: st) (h) Q) : WP d y pc lo (.int i1 :: .ref a :: st) h Q := w_s hd (by subst hk; simp [stpR, gL, h1, h2, hi, go]) k
theorem w_aastore {a kd v : Nat} {i1 : Int32} (hd : decode (mCode y) pc = .ok (.aastore, 1)) (hk : hK h a = kd) (hi : inA h a i1 = true) (h1 : 25 ≤ kd) (h2 : kd ≤ 29) (hv : 1 < v) (hv2 : hK h v = acl (kd - 25)) (k : WP d y (pc + 1) (lo) (st) (sAR h a i1.toNatClampNeg v) Q) : WP d y pc lo (.ref v :: .int i1 :: .ref a :: st) h Q := w_s hd (by subst hk; simp [stpR, gL, h1, h2, hi, hv, hv2, go]) k
theorem w_aastore0 {a kd v : Nat} {i1 : Int32} (hd : decode (mCode y) pc = .ok (.aastore, 1)) (hk : hK h a = kd) (hi : inA h a i1 = true) (h1 : 25 ≤ kd) (h2 : kd ≤ 29) (hv : v = 0 ∨ (1 < v ∧ hK h v = acl (kd - 25))) (k : WP d y (pc + 1) (lo) (st) (sAR h a i1.toNatClampNeg v) Q) : WP d y pc lo (.ref v :: .int i1 :: .ref a :: st) h Q := by
  rcases hv with rfl | ⟨a1, a2⟩
  · exact w_s hd (by subst hk; simp [stpR, gL, h1, h2, hi, go]) k
  · exact w_aastore hd hk hi h1 h2 a1 a2 k
theorem w_alen {a kd : Nat} (hd : decode (mCode y) pc = .ok (.arraylength, 1)) (hk : hK h a = kd) (h1 : 19 ≤ kd) (h2 : kd ≤ 29) (k : WP d y (pc + 1) (lo) (.int (Int32.ofNat (hL h a)) :: st) (h) Q) : WP d y pc lo (.ref a :: st) h Q := w_s hd (by subst hk; simp [stpR, gL, h1, h2, go]) k
theorem w_getI {a j ci k1 : Nat} (hd : decode (mCode y) pc = .ok (.getfield j, 3)) (hf : fres (mOwn y) j = some (ci, k1)) (ht : ftyp ci k1 = 0) (hk : hK h a = ci) (k : WP d y (pc + 3) (lo) (.int (hI h (100 * ci + k1) a) :: st) (h) Q) : WP d y pc lo (.ref a :: st) h Q := w_s hd (by subst hk; simp [stpR, gL, hf, fvl, ht, go]) k
theorem w_putI {a j ci k1 : Nat} {x : Int32} (hd : decode (mCode y) pc = .ok (.putfield j, 3)) (hf : fres (mOwn y) j = some (ci, k1)) (ht : ftyp ci k1 = 0) (hfi : (!(ffin ci k1) || (mIni y && mOwn y == ci)) = true) (hk : hK h a = ci)  (k : WP d y (pc + 3) (lo) (st) (sI h (100 * ci + k1) a x) Q) : WP d y pc lo (.int x :: .ref a :: st) h Q := w_s hd (by subst hk; simp [stpR, gL, hf, fsv, ht, hfi, go]) k
theorem w_getZ {a j ci k1 : Nat} (hd : decode (mCode y) pc = .ok (.getfield j, 3)) (hf : fres (mOwn y) j = some (ci, k1)) (ht : ftyp ci k1 = 3) (hk : hK h a = ci) (k : WP d y (pc + 3) (lo) (.int (hI h (100 * ci + k1) a) :: st) (h) Q) : WP d y pc lo (.ref a :: st) h Q := w_s hd (by subst hk; simp [stpR, gL, hf, fvl, ht, go]) k
theorem w_putZ {a j ci k1 : Nat} {x : Int32} (hd : decode (mCode y) pc = .ok (.putfield j, 3)) (hf : fres (mOwn y) j = some (ci, k1)) (ht : ftyp ci k1 = 3) (hfi : (!(ffin ci k1) || (mIni y && mOwn y == ci)) = true) (hk : hK h a = ci) (hz : isZ x = true) (k : WP d y (pc + 3) (lo) (st) (sI h (100 * ci + k1) a x) Q) : WP d y pc lo (.int x :: .ref a :: st) h Q := w_s hd (by subst hk; simp [stpR, gL, hf, fsv, ht, hfi, go, hz]) k
theorem w_getF {a j ci k1 : Nat} (hd : decode (mCode y) pc = .ok (.getfield j, 3)) (hf : fres (mOwn y) j = some (ci, k1)) (ht : ftyp ci k1 = 1) (hk : hK h a = ci) (k : WP d y (pc + 3) (lo) (.float (hF h (100 * ci + k1) a) :: st) (h) Q) : WP d y pc lo (.ref a :: st) h Q := w_s hd (by subst hk; simp [stpR, gL, hf, fvl, ht, go]) k
theorem w_putF {a j ci k1 : Nat} {x : UInt32} (hd : decode (mCode y) pc = .ok (.putfield j, 3)) (hf : fres (mOwn y) j = some (ci, k1)) (ht : ftyp ci k1 = 1) (hfi : (!(ffin ci k1) || (mIni y && mOwn y == ci)) = true) (hk : hK h a = ci)  (k : WP d y (pc + 3) (lo) (st) (sF h (100 * ci + k1) a x) Q) : WP d y pc lo (.float x :: .ref a :: st) h Q := w_s hd (by subst hk; simp [stpR, gL, hf, fsv, ht, hfi, go]) k
theorem w_getR {a j ci k1 : Nat} (hd : decode (mCode y) pc = .ok (.getfield j, 3)) (hf : fres (mOwn y) j = some (ci, k1)) (ht : ftyp ci k1 = 2) (hk : hK h a = ci) (k : WP d y (pc + 3) (lo) (.ref (hR h (100 * ci + k1) a) :: st) (h) Q) : WP d y pc lo (.ref a :: st) h Q := w_s hd (by subst hk; simp [stpR, gL, hf, fvl, ht, go]) k
theorem w_putR {a j ci k1 : Nat} {x : Nat} (hd : decode (mCode y) pc = .ok (.putfield j, 3)) (hf : fres (mOwn y) j = some (ci, k1)) (ht : ftyp ci k1 = 2) (hfi : (!(ffin ci k1) || (mIni y && mOwn y == ci)) = true) (hk : hK h a = ci)  (k : WP d y (pc + 3) (lo) (st) (sR h (100 * ci + k1) a x) Q) : WP d y pc lo (.ref x :: .ref a :: st) h Q := w_s hd (by subst hk; simp [stpR, gL, hf, fsv, ht, hfi, go]) k
theorem w_new {j ci : Nat} (hd : decode (mCode y) pc = .ok (.new j, 3)) (hn : nres (mOwn y) j = some ci) (k : WP d y (pc + 3) (lo) (.ref (hN h) :: st) (nw h ci 0 (nfld ci)) Q) : WP d y pc lo (st) h Q := w_s hd (by simp [stpR, gL, hn, go]) k
theorem w_nar_int {n : Int32} {m : Nat} (hd : decode (mCode y) pc = .ok (.newarray .int, 2)) (h0 : 0 ≤ n) (hm : n.toNatClampNeg = m) (h1 : m ≤ 20000) (k : WP d y (pc + 2) (lo) (.ref (hN h) :: st) (nw h 20 m m) Q) : WP d y pc lo (.int n :: st) h Q := w_s hd (by subst hm; simp [stpR, gL, h0, h1, go]) k
theorem w_nar_boolean {n : Int32} {m : Nat} (hd : decode (mCode y) pc = .ok (.newarray .boolean, 2)) (h0 : 0 ≤ n) (hm : n.toNatClampNeg = m) (h1 : m ≤ 20000) (k : WP d y (pc + 2) (lo) (.ref (hN h) :: st) (nw h 21 m m) Q) : WP d y pc lo (.int n :: st) h Q := w_s hd (by subst hm; simp [stpR, gL, h0, h1, go]) k
theorem w_nar_float {n : Int32} {m : Nat} (hd : decode (mCode y) pc = .ok (.newarray .float, 2)) (h0 : 0 ≤ n) (hm : n.toNatClampNeg = m) (h1 : m ≤ 20000) (k : WP d y (pc + 2) (lo) (.ref (hN h) :: st) (nw h 22 m m) Q) : WP d y pc lo (.int n :: st) h Q := w_s hd (by subst hm; simp [stpR, gL, h0, h1, go]) k
theorem w_nar_long {n : Int32} {m : Nat} (hd : decode (mCode y) pc = .ok (.newarray .long, 2)) (h0 : 0 ≤ n) (hm : n.toNatClampNeg = m) (h1 : m ≤ 20000) (k : WP d y (pc + 2) (lo) (.ref (hN h) :: st) (nw h 23 m m) Q) : WP d y pc lo (.int n :: st) h Q := w_s hd (by subst hm; simp [stpR, gL, h0, h1, go]) k
theorem w_nar_double {n : Int32} {m : Nat} (hd : decode (mCode y) pc = .ok (.newarray .double, 2)) (h0 : 0 ≤ n) (hm : n.toNatClampNeg = m) (h1 : m ≤ 20000) (k : WP d y (pc + 2) (lo) (.ref (hN h) :: st) (nw h 24 m m) Q) : WP d y pc lo (.int n :: st) h Q := w_s hd (by subst hm; simp [stpR, gL, h0, h1, go]) k
theorem w_anew {n : Int32} {m j t : Nat} (hd : decode (mCode y) pc = .ok (.anewarray j, 3)) (h0 : 0 ≤ n) (hm : n.toNatClampNeg = m) (h1 : m ≤ 20000) (ha : ares (mOwn y) j = some t) (k : WP d y (pc + 3) (lo) (.ref (hN h) :: st) (nw h (25 + t) m m) Q) : WP d y pc lo (.int n :: st) h Q := w_s hd (by subst hm; simp [stpR, gL, h0, h1, ha, go]) k
theorem w_ldc {v : Value} {j : Nat} (hd : decode (mCode y) pc = .ok (.ldc j, 2)) (hv : lres (mOwn y) j = some v) (k : WP d y (pc + 2) (lo) (v :: st) (h) Q) : WP d y pc lo (st) h Q := w_s hd (by simp [stpR, gL, hv, go]) k
theorem w_ldc_w {v : Value} {j : Nat} (hd : decode (mCode y) pc = .ok (.ldc_w j, 3)) (hv : lres (mOwn y) j = some v) (k : WP d y (pc + 3) (lo) (v :: st) (h) Q) : WP d y pc lo (st) h Q := w_s hd (by simp [stpR, gL, hv, go]) k
theorem w_max {x y1 : Int32} {j : Nat} {z : MI} (hd : decode (mCode y) pc = .ok (.invokestatic j, 3)) (hc : cres (mOwn y) j = some (5, z)) (h4 : st.length ≤ 4) (ha : st.all c1 = true) (k : WP d y (pc + 3) (lo) (.int (if x < y1 then y1 else x) :: st) (h) Q) : WP d y pc lo (.int y1 :: .int x :: st) h Q := w_s hd (by simp [stpR, gL, hc, h4, go]; simpa using ha) k
theorem w_min {x y1 : Int32} {j : Nat} {z : MI} (hd : decode (mCode y) pc = .ok (.invokestatic j, 3)) (hc : cres (mOwn y) j = some (6, z)) (h4 : st.length ≤ 4) (ha : st.all c1 = true) (k : WP d y (pc + 3) (lo) (.int (if y1 < x then y1 else x) :: st) (h) Q) : WP d y pc lo (.int y1 :: .int x :: st) h Q := w_s hd (by simp [stpR, gL, hc, h4, go]; simpa using ha) k
theorem w_obj {b j : Nat} {z : MI} (hd : decode (mCode y) pc = .ok (.invokespecial j, 3)) (hc : cres (mOwn y) j = some (4, z)) (h4 : st.length ≤ 4) (ha : st.all c1 = true) (hb : 1 < b) (k : WP d y (pc + 3) (lo) (st) (h) Q) : WP d y pc lo (.ref b :: st) h Q := w_s hd (by simp [stpR, gL, hc, h4, hb, go]; simpa using ha) k
theorem w_stat {j : Nat} {z : MI} {as1 as2 rest : List Value} {lo2 : Lo} (hd : decode (mCode y) pc = .ok (.invokestatic j, 3)) (hc : cres (mOwn y) j = some (1, z)) (h3 : st.take (mNa z) = as1) (h4 : as1.reverse = as2) (h5 : st.drop (mNa z) = rest) (h6 : (mNa z) ≤ st.length) (h7 : st.length ≤ (mNa z) + 4) (h8 : st.all c1 = true) (h9 : as2.length ≤ mML z) (h10 : ent z as2 = lo2) (k : WP d z 0 lo2 [] h (KK d y z pc lo rest Q)) : WP (d + 1) y pc lo st h Q := by
  rw [wp_call (z := z) (as := as2) (rest := rest) hd ?_ h9, h10]
  · exact k
  · subst h3; subst h4; subst h5; simp only [stpR, gL, cll, hc]; simp [h6, h7]; simpa using h8
theorem w_virt {b : Nat} {j : Nat} {z : MI} {as1 as2 rest : List Value} {lo2 : Lo} (hd : decode (mCode y) pc = .ok (.invokevirtual j, 3)) (hc : cres (mOwn y) j = some (0, z)) (h3 : st.take (mNa z + 1) = as1) (h4 : as1.reverse = as2) (h5 : st.drop (mNa z + 1) = rest) (h6 : (mNa z + 1) ≤ st.length) (h7 : st.length ≤ (mNa z + 1) + 4) (h8 : st.all c1 = true) (h9 : as2.length ≤ mML z) (h10 : ent z as2 = lo2) (hs : st[mNa z]? = some (.ref b)) (hb : 1 < b) (hk : hK h b = mOwn z) (k : WP d z 0 lo2 [] h (KK d y z pc lo rest Q)) : WP (d + 1) y pc lo st h Q := by
  rw [wp_call (z := z) (as := as2) (rest := rest) hd ?_ h9, h10]
  · exact k
  · subst h3; subst h4; subst h5; simp only [stpR, gL, cll, hc, hs]; simp [h6, h7, hb, hk]; simpa using h8
theorem w_spec {b : Nat} {j : Nat} {z : MI} {as1 as2 rest : List Value} {lo2 : Lo} (hd : decode (mCode y) pc = .ok (.invokespecial j, 3)) (hc : cres (mOwn y) j = some (2, z)) (h3 : st.take (mNa z + 1) = as1) (h4 : as1.reverse = as2) (h5 : st.drop (mNa z + 1) = rest) (h6 : (mNa z + 1) ≤ st.length) (h7 : st.length ≤ (mNa z + 1) + 4) (h8 : st.all c1 = true) (h9 : as2.length ≤ mML z) (h10 : ent z as2 = lo2) (hs : st[mNa z]? = some (.ref b)) (hb : 1 < b) (k : WP d z 0 lo2 [] h (KK d y z pc lo rest Q)) : WP (d + 1) y pc lo st h Q := by
  rw [wp_call (z := z) (as := as2) (rest := rest) hd ?_ h9, h10]
  · exact k
  · subst h3; subst h4; subst h5; simp only [stpR, gL, cll, hc, hs]; simp [h6, h7, hb]; simpa using h8
theorem w_nest {b : Nat} {j : Nat} {z : MI} {as1 as2 rest : List Value} {lo2 : Lo} (hd : decode (mCode y) pc = .ok (.invokespecial j, 3)) (hc : cres (mOwn y) j = some (3, z)) (h3 : st.take (mNa z + 1) = as1) (h4 : as1.reverse = as2) (h5 : st.drop (mNa z + 1) = rest) (h6 : (mNa z + 1) ≤ st.length) (h7 : st.length ≤ (mNa z + 1) + 4) (h8 : st.all c1 = true) (h9 : as2.length ≤ mML z) (h10 : ent z as2 = lo2) (hs : st[mNa z]? = some (.ref b)) (hb : 1 < b) (k : WP d z 0 lo2 [] h (KK d y z pc lo rest Q)) : WP (d + 1) y pc lo st h Q := by
  rw [wp_call (z := z) (as := as2) (rest := rest) hd ?_ h9, h10]
  · exact k
  · subst h3; subst h4; subst h5; simp only [stpR, gL, cll, hc, hs]; simp [h6, h7, hb]; simpa using h8
theorem w_e {o : Out} {h' : HP} (hd : decode (mCode y) pc = .ok (i, len)) (hs : stpR y i len pc lo st h = some (.inr (.inr (o, h')))) (k : Q o h') : WP d y pc lo st h Q := by
  rw [wp_end hd hs]; exact k
theorem w_ireturn {x : Int32} (hd : decode (mCode y) pc = .ok (.ireturn, 1)) (hr : rok (mRet y) (some (.int x)) = true) (k : Q (.inl (some (.int x))) h) : WP d y pc lo [.int x] h Q := w_e hd (by simp [stpR, gL, hr]) k
theorem w_freturn {x : UInt32} (hd : decode (mCode y) pc = .ok (.freturn, 1)) (hr : rok (mRet y) (some (.float x)) = true) (k : Q (.inl (some (.float x))) h) : WP d y pc lo [.float x] h Q := w_e hd (by simp [stpR, gL, hr]) k
theorem w_areturn {x : Nat} (hd : decode (mCode y) pc = .ok (.areturn, 1)) (hr : rok (mRet y) (some (.ref x)) = true) (k : Q (.inl (some (.ref x))) h) : WP d y pc lo [.ref x] h Q := w_e hd (by simp [stpR, gL, hr]) k
theorem w_return (hd : decode (mCode y) pc = .ok (.return_, 1)) (hr : rok (mRet y) none = true) (k : Q (.inl none) h) : WP d y pc lo [] h Q := w_e hd (by simp [stpR, gL, hr]) k
theorem w_thr {j e : Nat} (hd : decode (mCode y) pc = .ok (.new j, 3)) (hn : nres (mOwn y) j = none) (hx : thw y pc j = some e) (h5 : st.length ≤ 4) (h6 : st.all c1 = true) (h7 : (mHH y).isEmpty = true) (k : Q (.inr e) (thr h)) : WP d y pc lo st h Q := w_e hd (by simp only [stpR, gL, hn, hx, h5, h7, h6]; simp) k
def tsj (pc : Nat) (d lo hi : Int) (offs : Array Int) (x : Int32) : Option Nat := if x.toInt < lo ∨ hi < x.toInt then (if jok pc d = true then some (jmp pc d) else none) else (match offs[(x.toInt - lo).toNat]? with
  | some off => if jok pc off = true then some (jmp pc off) else none
  | none => none)
theorem w_tsw {x : Int32} {d1 lo1 hi1 : Int} {offs : Array Int} (hd : decode (mCode y) pc = .ok (.tableswitch d1 lo1 hi1 offs, len)) (hj : tsj pc d1 lo1 hi1 offs x = some pc') (k : WP d y pc' lo st h Q) : WP d y pc lo (.int x :: st) h Q := w_s hd (by
  simp only [stpR]
  unfold tsj at hj
  split at hj
  · rename_i hc
    rw [if_pos hc]
    split at hj
    · rename_i hk
      cases hj
      rw [hk]; rfl
    · cases hj
  · rename_i hc
    rw [if_neg hc]
    split at hj
    · rename_i off ho
      rw [ho]
      split at hj
      · rename_i hk
        cases hj
        simp only
        rw [hk]; rfl
      · cases hj
    · cases hj) k
theorem ts_def {x : Int32} {d1 lo1 hi1 : Int} {offs : Array Int} {pc pc' : Nat} (hx : x.toInt < lo1 ∨ hi1 < x.toInt) (hj : jok pc d1 = true) (hp : jmp pc d1 = pc') : tsj pc d1 lo1 hi1 offs x = some pc' := by
  subst hp; simp [tsj, hx, hj]
theorem ts_ne {x : Int32} {n : Int32} {k : Int} (h : ¬ x = n) (e : n.toInt = k) : x.toInt ≠ k := fun q => h (Int32.toInt_inj.mp (q.trans e.symm))
end OPS
