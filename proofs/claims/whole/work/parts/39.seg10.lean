/-! ===== segments: what the program does from a place to the next ===== -/
theorem bJ6_bitCount_0f7a4_0 {d : Nat} {h : HP} {Q : Out → HP → Prop} {v0 : Int32} (k : WP d mJ6_bitCount_0f7a4 25 [some (.int (((v0 - ((((v0).toUInt32 >>> (((1 : Int32)).toUInt32 &&& Int32.toUInt32 31)).toInt32) &&& (1431655765 : Int32))) &&& (858993459 : Int32)) + (((((v0 - ((((v0).toUInt32 >>> (((1 : Int32)).toUInt32 &&& Int32.toUInt32 31)).toInt32) &&& (1431655765 : Int32)))).toUInt32 >>> (((2 : Int32)).toUInt32 &&& Int32.toUInt32 31)).toInt32) &&& (858993459 : Int32))))] [.int (((v0 - ((((v0).toUInt32 >>> (((1 : Int32)).toUInt32 &&& Int32.toUInt32 31)).toInt32) &&& (1431655765 : Int32))) &&& (858993459 : Int32)) + (((((v0 - ((((v0).toUInt32 >>> (((1 : Int32)).toUInt32 &&& Int32.toUInt32 31)).toInt32) &&& (1431655765 : Int32)))).toUInt32 >>> (((2 : Int32)).toUInt32 &&& Int32.toUInt32 31)).toInt32) &&& (858993459 : Int32)))] h Q) : WP d mJ6_bitCount_0f7a4 0 [some (.int v0)] [] h Q := by
  refine w_iload_n dJ6_bitCount_0f7a4_0 rfl ?_
  refine w_iload_n dJ6_bitCount_0f7a4_1 rfl ?_
  refine w_iconst dJ6_bitCount_0f7a4_2 i1_1 ?_
  refine w_iushr dJ6_bitCount_0f7a4_3 ?_
  refine w_ldc_w dJ6_bitCount_0f7a4_4 l_14_265 ?_
  refine w_iand dJ6_bitCount_0f7a4_7 ?_
  refine w_isub dJ6_bitCount_0f7a4_8 ?_
  refine w_istore_n (lo' := [some (.int (v0 - ((((v0).toUInt32 >>> (((1 : Int32)).toUInt32 &&& Int32.toUInt32 31)).toInt32) &&& (1431655765 : Int32))))]) dJ6_bitCount_0f7a4_9 (ltQ rfl) rfl ?_
  refine w_iload_n dJ6_bitCount_0f7a4_10 rfl ?_
  refine w_ldc_w dJ6_bitCount_0f7a4_11 l_14_266 ?_
  refine w_iand dJ6_bitCount_0f7a4_14 ?_
  refine w_iload_n dJ6_bitCount_0f7a4_15 rfl ?_
  refine w_iconst dJ6_bitCount_0f7a4_16 i1_2 ?_
  refine w_iushr dJ6_bitCount_0f7a4_17 ?_
  refine w_ldc_w dJ6_bitCount_0f7a4_18 l_14_266 ?_
  refine w_iand dJ6_bitCount_0f7a4_21 ?_
  refine w_iadd dJ6_bitCount_0f7a4_22 ?_
  refine w_istore_n (lo' := [some (.int (((v0 - ((((v0).toUInt32 >>> (((1 : Int32)).toUInt32 &&& Int32.toUInt32 31)).toInt32) &&& (1431655765 : Int32))) &&& (858993459 : Int32)) + (((((v0 - ((((v0).toUInt32 >>> (((1 : Int32)).toUInt32 &&& Int32.toUInt32 31)).toInt32) &&& (1431655765 : Int32)))).toUInt32 >>> (((2 : Int32)).toUInt32 &&& Int32.toUInt32 31)).toInt32) &&& (858993459 : Int32))))]) dJ6_bitCount_0f7a4_23 (ltQ rfl) rfl ?_
  refine w_iload_n dJ6_bitCount_0f7a4_24 rfl ?_
  exact k
theorem bJ6_bitCount_0f7a4_25 {d : Nat} {h : HP} {Q : Out → HP → Prop} {v0 : Int32} {s0 : Int32} (k : WP d mJ6_bitCount_0f7a4 42 [some (.int (((s0 + (((v0).toUInt32 >>> (((4 : Int32)).toUInt32 &&& Int32.toUInt32 31)).toInt32)) &&& (252645135 : Int32)) + (((((s0 + (((v0).toUInt32 >>> (((4 : Int32)).toUInt32 &&& Int32.toUInt32 31)).toInt32)) &&& (252645135 : Int32))).toUInt32 >>> (((8 : Int32)).toUInt32 &&& Int32.toUInt32 31)).toInt32)))] [.int (((s0 + (((v0).toUInt32 >>> (((4 : Int32)).toUInt32 &&& Int32.toUInt32 31)).toInt32)) &&& (252645135 : Int32)) + (((((s0 + (((v0).toUInt32 >>> (((4 : Int32)).toUInt32 &&& Int32.toUInt32 31)).toInt32)) &&& (252645135 : Int32))).toUInt32 >>> (((8 : Int32)).toUInt32 &&& Int32.toUInt32 31)).toInt32))] h Q) : WP d mJ6_bitCount_0f7a4 25 [some (.int v0)] [.int s0] h Q := by
  refine w_iload_n dJ6_bitCount_0f7a4_25 rfl ?_
  refine w_iconst dJ6_bitCount_0f7a4_26 i1_4 ?_
  refine w_iushr dJ6_bitCount_0f7a4_27 ?_
  refine w_iadd dJ6_bitCount_0f7a4_28 ?_
  refine w_ldc_w dJ6_bitCount_0f7a4_29 l_14_267 ?_
  refine w_iand dJ6_bitCount_0f7a4_32 ?_
  refine w_istore_n (lo' := [some (.int ((s0 + (((v0).toUInt32 >>> (((4 : Int32)).toUInt32 &&& Int32.toUInt32 31)).toInt32)) &&& (252645135 : Int32)))]) dJ6_bitCount_0f7a4_33 (ltQ rfl) rfl ?_
  refine w_iload_n dJ6_bitCount_0f7a4_34 rfl ?_
  refine w_iload_n dJ6_bitCount_0f7a4_35 rfl ?_
  refine w_bipush dJ6_bitCount_0f7a4_36 i2_8 ?_
  refine w_iushr dJ6_bitCount_0f7a4_38 ?_
  refine w_iadd dJ6_bitCount_0f7a4_39 ?_
  refine w_istore_n (lo' := [some (.int (((s0 + (((v0).toUInt32 >>> (((4 : Int32)).toUInt32 &&& Int32.toUInt32 31)).toInt32)) &&& (252645135 : Int32)) + (((((s0 + (((v0).toUInt32 >>> (((4 : Int32)).toUInt32 &&& Int32.toUInt32 31)).toInt32)) &&& (252645135 : Int32))).toUInt32 >>> (((8 : Int32)).toUInt32 &&& Int32.toUInt32 31)).toInt32)))]) dJ6_bitCount_0f7a4_40 (ltQ rfl) rfl ?_
  refine w_iload_n dJ6_bitCount_0f7a4_41 rfl ?_
  exact k
theorem bJ6_bitCount_0f7a4_42 {d : Nat} {h : HP} {Q : Out → HP → Prop} {v0 : Int32} {s0 : Int32} (k : Q (.inl (some (.int ((s0 + (((v0).toUInt32 >>> (((16 : Int32)).toUInt32 &&& Int32.toUInt32 31)).toInt32)) &&& (63 : Int32))))) h) : WP d mJ6_bitCount_0f7a4 42 [some (.int v0)] [.int s0] h Q := by
  refine w_iload_n dJ6_bitCount_0f7a4_42 rfl ?_
  refine w_bipush dJ6_bitCount_0f7a4_43 i2_16 ?_
  refine w_iushr dJ6_bitCount_0f7a4_45 ?_
  refine w_iadd dJ6_bitCount_0f7a4_46 ?_
  refine w_istore_n (lo' := [some (.int (s0 + (((v0).toUInt32 >>> (((16 : Int32)).toUInt32 &&& Int32.toUInt32 31)).toInt32)))]) dJ6_bitCount_0f7a4_47 (ltQ rfl) rfl ?_
  refine w_iload_n dJ6_bitCount_0f7a4_48 rfl ?_
  refine w_bipush dJ6_bitCount_0f7a4_49 i2_63 ?_
  refine w_iand dJ6_bitCount_0f7a4_51 ?_
  exact w_ireturn dJ6_bitCount_0f7a4_52 rfl k
