/-! ===== segments: what the program does from a place to the next ===== -/
theorem bX12_init_0 {d : Nat} {h : HP} {Q : Out → HP → Prop} {v0 : Nat} (k : (1 < v0) ∧ ((hK h v0 = 12) ∧ ((hK (sI h 1200 v0 (3 : Int32)) v0 = 12) ∧ ((hK (nw (sF (sI h 1200 v0 (3 : Int32)) 1202 v0 (1092616192 : UInt32)) 21 5 5) v0 = 12) ∧ ((hK (nw (sR (nw (sF (sI h 1200 v0 (3 : Int32)) 1202 v0 (1092616192 : UInt32)) 21 5 5) 1205 v0 (hN (sF (sI h 1200 v0 (3 : Int32)) 1202 v0 (1092616192 : UInt32)))) 21 25 25) v0 = 12) ∧ (WP d mX12_init 34 [some (.ref v0)] [.ref (hN (sR (nw (sR (nw (sF (sI h 1200 v0 (3 : Int32)) 1202 v0 (1092616192 : UInt32)) 21 5 5) 1205 v0 (hN (sF (sI h 1200 v0 (3 : Int32)) 1202 v0 (1092616192 : UInt32)))) 21 25 25) 1206 v0 (hN (sR (nw (sF (sI h 1200 v0 (3 : Int32)) 1202 v0 (1092616192 : UInt32)) 21 5 5) 1205 v0 (hN (sF (sI h 1200 v0 (3 : Int32)) 1202 v0 (1092616192 : UInt32))))))), .ref v0] (nw (sR (nw (sR (nw (sF (sI h 1200 v0 (3 : Int32)) 1202 v0 (1092616192 : UInt32)) 21 5 5) 1205 v0 (hN (sF (sI h 1200 v0 (3 : Int32)) 1202 v0 (1092616192 : UInt32)))) 21 25 25) 1206 v0 (hN (sR (nw (sF (sI h 1200 v0 (3 : Int32)) 1202 v0 (1092616192 : UInt32)) 21 5 5) 1205 v0 (hN (sF (sI h 1200 v0 (3 : Int32)) 1202 v0 (1092616192 : UInt32)))))) 22 5 5) Q)))))) : WP d mX12_init 0 [some (.ref v0)] [] h Q := by
  refine w_aload_n dX12_init_0 rfl ?_
  obtain ⟨g1, k⟩ := k
  refine w_obj dX12_init_1 c_12_1 (Nat.le_of_ble_eq_true rfl) rfl g1 ?_
  refine w_aload_n dX12_init_4 rfl ?_
  refine w_iconst dX12_init_5 i1_3 ?_
  obtain ⟨g2, k⟩ := k
  refine w_putI dX12_init_6 f_12_7 t_12_0 (pf_nf n_12_0) g2 ?_
  refine w_aload_n dX12_init_9 rfl ?_
  refine w_ldc dX12_init_10 l_12_13 ?_
  obtain ⟨g3, k⟩ := k
  refine w_putF dX12_init_12 f_12_14 t_12_2 (pf_nf n_12_2) g3 ?_
  refine w_aload_n dX12_init_15 rfl ?_
  refine w_iconst dX12_init_16 i1_5 ?_
  refine w_nar_boolean (m := 5) dX12_init_17 (by decide) (by decide) (by decide) ?_
  obtain ⟨g4, k⟩ := k
  refine w_putR dX12_init_19 f_12_18 t_12_5 (pf_in rfl rfl) g4 ?_
  refine w_aload_n dX12_init_22 rfl ?_
  refine w_bipush dX12_init_23 i2_25 ?_
  refine w_nar_boolean (m := 25) dX12_init_25 (by decide) (by decide) (by decide) ?_
  obtain ⟨g5, k⟩ := k
  refine w_putR dX12_init_27 f_12_22 t_12_6 (pf_in rfl rfl) g5 ?_
  refine w_aload_n dX12_init_30 rfl ?_
  refine w_iconst dX12_init_31 i1_5 ?_
  refine w_nar_float (m := 5) dX12_init_32 (by decide) (by decide) (by decide) ?_
  exact k
theorem bX12_init_34 {d : Nat} {h : HP} {Q : Out → HP → Prop} {v0 : Nat} {s0 : Nat} {s1 : Nat} (k : (hK h s1 = 12) ∧ ((hK (nw (sR h 1207 s1 s0) 22 5 5) v0 = 12) ∧ ((hK (nw (sR (nw (sR h 1207 s1 s0) 22 5 5) 1208 v0 (hN (sR h 1207 s1 s0))) 20 5 5) v0 = 12) ∧ ((hK (nw (sR (nw (sR (nw (sR h 1207 s1 s0) 22 5 5) 1208 v0 (hN (sR h 1207 s1 s0))) 20 5 5) 1209 v0 (hN (sR (nw (sR h 1207 s1 s0) 22 5 5) 1208 v0 (hN (sR h 1207 s1 s0))))) 20 5 5) v0 = 12) ∧ (WP d mX12_init 62 [some (.ref v0)] [.ref (hN (sR (nw (sR (nw (sR (nw (sR h 1207 s1 s0) 22 5 5) 1208 v0 (hN (sR h 1207 s1 s0))) 20 5 5) 1209 v0 (hN (sR (nw (sR h 1207 s1 s0) 22 5 5) 1208 v0 (hN (sR h 1207 s1 s0))))) 20 5 5) 1210 v0 (hN (sR (nw (sR (nw (sR h 1207 s1 s0) 22 5 5) 1208 v0 (hN (sR h 1207 s1 s0))) 20 5 5) 1209 v0 (hN (sR (nw (sR h 1207 s1 s0) 22 5 5) 1208 v0 (hN (sR h 1207 s1 s0)))))))), .ref v0] (nw (sR (nw (sR (nw (sR (nw (sR h 1207 s1 s0) 22 5 5) 1208 v0 (hN (sR h 1207 s1 s0))) 20 5 5) 1209 v0 (hN (sR (nw (sR h 1207 s1 s0) 22 5 5) 1208 v0 (hN (sR h 1207 s1 s0))))) 20 5 5) 1210 v0 (hN (sR (nw (sR (nw (sR h 1207 s1 s0) 22 5 5) 1208 v0 (hN (sR h 1207 s1 s0))) 20 5 5) 1209 v0 (hN (sR (nw (sR h 1207 s1 s0) 22 5 5) 1208 v0 (hN (sR h 1207 s1 s0))))))) 20 5 5) Q))))) : WP d mX12_init 34 [some (.ref v0)] [.ref s0, .ref s1] h Q := by
  obtain ⟨g1, k⟩ := k
  refine w_putR dX12_init_34 f_12_25 t_12_7 (pf_in rfl rfl) g1 ?_
  refine w_aload_n dX12_init_37 rfl ?_
  refine w_iconst dX12_init_38 i1_5 ?_
  refine w_nar_float (m := 5) dX12_init_39 (by decide) (by decide) (by decide) ?_
  obtain ⟨g2, k⟩ := k
  refine w_putR dX12_init_41 f_12_29 t_12_8 (pf_in rfl rfl) g2 ?_
  refine w_aload_n dX12_init_44 rfl ?_
  refine w_iconst dX12_init_45 i1_5 ?_
  refine w_nar_int (m := 5) dX12_init_46 (by decide) (by decide) (by decide) ?_
  obtain ⟨g3, k⟩ := k
  refine w_putR dX12_init_48 f_12_32 t_12_9 (pf_in rfl rfl) g3 ?_
  refine w_aload_n dX12_init_51 rfl ?_
  refine w_iconst dX12_init_52 i1_5 ?_
  refine w_nar_int (m := 5) dX12_init_53 (by decide) (by decide) (by decide) ?_
  obtain ⟨g4, k⟩ := k
  refine w_putR dX12_init_55 f_12_36 t_12_10 (pf_in rfl rfl) g4 ?_
  refine w_aload_n dX12_init_58 rfl ?_
  refine w_iconst dX12_init_59 i1_5 ?_
  refine w_nar_int (m := 5) dX12_init_60 (by decide) (by decide) (by decide) ?_
  exact k
theorem bX12_init_62 {d : Nat} {h : HP} {Q : Out → HP → Prop} {v0 : Nat} {s0 : Nat} {s1 : Nat} (k : (hK h s1 = 12) ∧ ((hK (nw (sR h 1211 s1 s0) 20 5 5) v0 = 12) ∧ ((hK (nw (sR (nw (sR h 1211 s1 s0) 20 5 5) 1212 v0 (hN (sR h 1211 s1 s0))) 20 5 5) v0 = 12) ∧ ((hK (nw (sR (nw (sR (nw (sR h 1211 s1 s0) 20 5 5) 1212 v0 (hN (sR h 1211 s1 s0))) 20 5 5) 1213 v0 (hN (sR (nw (sR h 1211 s1 s0) 20 5 5) 1212 v0 (hN (sR h 1211 s1 s0))))) 20 150 150) v0 = 12) ∧ (WP d mX12_init 94 [some (.ref v0)] [.ref (hN (sR (nw (sR (nw (sR (nw (sR h 1211 s1 s0) 20 5 5) 1212 v0 (hN (sR h 1211 s1 s0))) 20 5 5) 1213 v0 (hN (sR (nw (sR h 1211 s1 s0) 20 5 5) 1212 v0 (hN (sR h 1211 s1 s0))))) 20 150 150) 1214 v0 (hN (sR (nw (sR (nw (sR h 1211 s1 s0) 20 5 5) 1212 v0 (hN (sR h 1211 s1 s0))) 20 5 5) 1213 v0 (hN (sR (nw (sR h 1211 s1 s0) 20 5 5) 1212 v0 (hN (sR h 1211 s1 s0)))))))), .ref v0] (nw (sR (nw (sR (nw (sR (nw (sR h 1211 s1 s0) 20 5 5) 1212 v0 (hN (sR h 1211 s1 s0))) 20 5 5) 1213 v0 (hN (sR (nw (sR h 1211 s1 s0) 20 5 5) 1212 v0 (hN (sR h 1211 s1 s0))))) 20 150 150) 1214 v0 (hN (sR (nw (sR (nw (sR h 1211 s1 s0) 20 5 5) 1212 v0 (hN (sR h 1211 s1 s0))) 20 5 5) 1213 v0 (hN (sR (nw (sR h 1211 s1 s0) 20 5 5) 1212 v0 (hN (sR h 1211 s1 s0))))))) 20 150 150) Q))))) : WP d mX12_init 62 [some (.ref v0)] [.ref s0, .ref s1] h Q := by
  obtain ⟨g1, k⟩ := k
  refine w_putR dX12_init_62 f_12_39 t_12_11 (pf_in rfl rfl) g1 ?_
  refine w_aload_n dX12_init_65 rfl ?_
  refine w_iconst dX12_init_66 i1_5 ?_
  refine w_nar_int (m := 5) dX12_init_67 (by decide) (by decide) (by decide) ?_
  obtain ⟨g2, k⟩ := k
  refine w_putR dX12_init_69 f_12_42 t_12_12 (pf_in rfl rfl) g2 ?_
  refine w_aload_n dX12_init_72 rfl ?_
  refine w_iconst dX12_init_73 i1_5 ?_
  refine w_nar_int (m := 5) dX12_init_74 (by decide) (by decide) (by decide) ?_
  obtain ⟨g3, k⟩ := k
  refine w_putR dX12_init_76 f_12_45 t_12_13 (pf_in rfl rfl) g3 ?_
  refine w_aload_n dX12_init_79 rfl ?_
  refine w_sipush dX12_init_80 i3_150 ?_
  refine w_nar_int (m := 150) dX12_init_83 (by decide) (by decide) (by decide) ?_
  obtain ⟨g4, k⟩ := k
  refine w_putR dX12_init_85 f_12_48 t_12_14 (pf_in rfl rfl) g4 ?_
  refine w_aload_n dX12_init_88 rfl ?_
  refine w_sipush dX12_init_89 i3_150 ?_
  refine w_nar_int (m := 150) dX12_init_92 (by decide) (by decide) (by decide) ?_
  exact k
theorem bX12_init_94 {d : Nat} {h : HP} {Q : Out → HP → Prop} {v0 : Nat} {s0 : Nat} {s1 : Nat} (k : (hK h s1 = 12) ∧ ((hK (nw (sR h 1215 s1 s0) 20 150 150) v0 = 12) ∧ ((hK (nw (sR (nw (sR h 1215 s1 s0) 20 150 150) 1216 v0 (hN (sR h 1215 s1 s0))) 20 150 150) v0 = 12) ∧ ((hK (nw (sR (nw (sR (nw (sR h 1215 s1 s0) 20 150 150) 1216 v0 (hN (sR h 1215 s1 s0))) 20 150 150) 1217 v0 (hN (sR (nw (sR h 1215 s1 s0) 20 150 150) 1216 v0 (hN (sR h 1215 s1 s0))))) 20 5 5) v0 = 12) ∧ (WP d mX12_init 127 [some (.ref v0)] [.ref (hN (sR (nw (sR (nw (sR (nw (sR h 1215 s1 s0) 20 150 150) 1216 v0 (hN (sR h 1215 s1 s0))) 20 150 150) 1217 v0 (hN (sR (nw (sR h 1215 s1 s0) 20 150 150) 1216 v0 (hN (sR h 1215 s1 s0))))) 20 5 5) 1218 v0 (hN (sR (nw (sR (nw (sR h 1215 s1 s0) 20 150 150) 1216 v0 (hN (sR h 1215 s1 s0))) 20 150 150) 1217 v0 (hN (sR (nw (sR h 1215 s1 s0) 20 150 150) 1216 v0 (hN (sR h 1215 s1 s0)))))))), .ref v0] (nw (sR (nw (sR (nw (sR (nw (sR h 1215 s1 s0) 20 150 150) 1216 v0 (hN (sR h 1215 s1 s0))) 20 150 150) 1217 v0 (hN (sR (nw (sR h 1215 s1 s0) 20 150 150) 1216 v0 (hN (sR h 1215 s1 s0))))) 20 5 5) 1218 v0 (hN (sR (nw (sR (nw (sR h 1215 s1 s0) 20 150 150) 1216 v0 (hN (sR h 1215 s1 s0))) 20 150 150) 1217 v0 (hN (sR (nw (sR h 1215 s1 s0) 20 150 150) 1216 v0 (hN (sR h 1215 s1 s0))))))) 20 25 25) Q))))) : WP d mX12_init 94 [some (.ref v0)] [.ref s0, .ref s1] h Q := by
  obtain ⟨g1, k⟩ := k
  refine w_putR dX12_init_94 f_12_51 t_12_15 (pf_in rfl rfl) g1 ?_
  refine w_aload_n dX12_init_97 rfl ?_
  refine w_sipush dX12_init_98 i3_150 ?_
  refine w_nar_int (m := 150) dX12_init_101 (by decide) (by decide) (by decide) ?_
  obtain ⟨g2, k⟩ := k
  refine w_putR dX12_init_103 f_12_54 t_12_16 (pf_in rfl rfl) g2 ?_
  refine w_aload_n dX12_init_106 rfl ?_
  refine w_sipush dX12_init_107 i3_150 ?_
  refine w_nar_int (m := 150) dX12_init_110 (by decide) (by decide) (by decide) ?_
  obtain ⟨g3, k⟩ := k
  refine w_putR dX12_init_112 f_12_57 t_12_17 (pf_in rfl rfl) g3 ?_
  refine w_aload_n dX12_init_115 rfl ?_
  refine w_iconst dX12_init_116 i1_5 ?_
  refine w_nar_int (m := 5) dX12_init_117 (by decide) (by decide) (by decide) ?_
  obtain ⟨g4, k⟩ := k
  refine w_putR dX12_init_119 f_12_60 t_12_18 (pf_in rfl rfl) g4 ?_
  refine w_aload_n dX12_init_122 rfl ?_
  refine w_bipush dX12_init_123 i2_25 ?_
  refine w_nar_int (m := 25) dX12_init_125 (by decide) (by decide) (by decide) ?_
  exact k
theorem bX12_init_127 {d : Nat} {h : HP} {Q : Out → HP → Prop} {v0 : Nat} {s0 : Nat} {s1 : Nat} (k : (hK h s1 = 12) ∧ ((hK (nw (sR h 1219 s1 s0) 20 25 25) v0 = 12) ∧ ((hK (nw (sR (nw (sR h 1219 s1 s0) 20 25 25) 1220 v0 (hN (sR h 1219 s1 s0))) 21 25 25) v0 = 12) ∧ ((hK (nw (sR (nw (sR (nw (sR h 1219 s1 s0) 20 25 25) 1220 v0 (hN (sR h 1219 s1 s0))) 21 25 25) 1221 v0 (hN (sR (nw (sR h 1219 s1 s0) 20 25 25) 1220 v0 (hN (sR h 1219 s1 s0))))) 22 25 25) v0 = 12) ∧ (WP d mX12_init 158 [some (.ref v0)] [.ref (hN (sR (nw (sR (nw (sR (nw (sR h 1219 s1 s0) 20 25 25) 1220 v0 (hN (sR h 1219 s1 s0))) 21 25 25) 1221 v0 (hN (sR (nw (sR h 1219 s1 s0) 20 25 25) 1220 v0 (hN (sR h 1219 s1 s0))))) 22 25 25) 1222 v0 (hN (sR (nw (sR (nw (sR h 1219 s1 s0) 20 25 25) 1220 v0 (hN (sR h 1219 s1 s0))) 21 25 25) 1221 v0 (hN (sR (nw (sR h 1219 s1 s0) 20 25 25) 1220 v0 (hN (sR h 1219 s1 s0)))))))), .ref v0] (nw (sR (nw (sR (nw (sR (nw (sR h 1219 s1 s0) 20 25 25) 1220 v0 (hN (sR h 1219 s1 s0))) 21 25 25) 1221 v0 (hN (sR (nw (sR h 1219 s1 s0) 20 25 25) 1220 v0 (hN (sR h 1219 s1 s0))))) 22 25 25) 1222 v0 (hN (sR (nw (sR (nw (sR h 1219 s1 s0) 20 25 25) 1220 v0 (hN (sR h 1219 s1 s0))) 21 25 25) 1221 v0 (hN (sR (nw (sR h 1219 s1 s0) 20 25 25) 1220 v0 (hN (sR h 1219 s1 s0))))))) 21 5 5) Q))))) : WP d mX12_init 127 [some (.ref v0)] [.ref s0, .ref s1] h Q := by
  obtain ⟨g1, k⟩ := k
  refine w_putR dX12_init_127 f_12_63 t_12_19 (pf_in rfl rfl) g1 ?_
  refine w_aload_n dX12_init_130 rfl ?_
  refine w_bipush dX12_init_131 i2_25 ?_
  refine w_nar_int (m := 25) dX12_init_133 (by decide) (by decide) (by decide) ?_
  obtain ⟨g2, k⟩ := k
  refine w_putR dX12_init_135 f_12_66 t_12_20 (pf_in rfl rfl) g2 ?_
  refine w_aload_n dX12_init_138 rfl ?_
  refine w_bipush dX12_init_139 i2_25 ?_
  refine w_nar_boolean (m := 25) dX12_init_141 (by decide) (by decide) (by decide) ?_
  obtain ⟨g3, k⟩ := k
  refine w_putR dX12_init_143 f_12_69 t_12_21 (pf_in rfl rfl) g3 ?_
  refine w_aload_n dX12_init_146 rfl ?_
  refine w_bipush dX12_init_147 i2_25 ?_
  refine w_nar_float (m := 25) dX12_init_149 (by decide) (by decide) (by decide) ?_
  obtain ⟨g4, k⟩ := k
  refine w_putR dX12_init_151 f_12_72 t_12_22 (pf_in rfl rfl) g4 ?_
  refine w_aload_n dX12_init_154 rfl ?_
  refine w_iconst dX12_init_155 i1_5 ?_
  refine w_nar_boolean (m := 5) dX12_init_156 (by decide) (by decide) (by decide) ?_
  exact k
theorem bX12_init_158 {d : Nat} {h : HP} {Q : Out → HP → Prop} {v0 : Nat} {s0 : Nat} {s1 : Nat} (k : (hK h s1 = 12) ∧ ((hK (nw (sR h 1223 s1 s0) 22 5 5) v0 = 12) ∧ ((hK (nw (sR (nw (sR h 1223 s1 s0) 22 5 5) 1224 v0 (hN (sR h 1223 s1 s0))) 20 5 5) v0 = 12) ∧ ((hK (nw (sR (nw (sR (nw (sR h 1223 s1 s0) 22 5 5) 1224 v0 (hN (sR h 1223 s1 s0))) 20 5 5) 1225 v0 (hN (sR (nw (sR h 1223 s1 s0) 22 5 5) 1224 v0 (hN (sR h 1223 s1 s0))))) 22 5 5) v0 = 12) ∧ (WP d mX12_init 187 [some (.ref v0)] [.ref (hN (sR (nw (sR (nw (sR (nw (sR h 1223 s1 s0) 22 5 5) 1224 v0 (hN (sR h 1223 s1 s0))) 20 5 5) 1225 v0 (hN (sR (nw (sR h 1223 s1 s0) 22 5 5) 1224 v0 (hN (sR h 1223 s1 s0))))) 22 5 5) 1226 v0 (hN (sR (nw (sR (nw (sR h 1223 s1 s0) 22 5 5) 1224 v0 (hN (sR h 1223 s1 s0))) 20 5 5) 1225 v0 (hN (sR (nw (sR h 1223 s1 s0) 22 5 5) 1224 v0 (hN (sR h 1223 s1 s0)))))))), .ref v0] (nw (sR (nw (sR (nw (sR (nw (sR h 1223 s1 s0) 22 5 5) 1224 v0 (hN (sR h 1223 s1 s0))) 20 5 5) 1225 v0 (hN (sR (nw (sR h 1223 s1 s0) 22 5 5) 1224 v0 (hN (sR h 1223 s1 s0))))) 22 5 5) 1226 v0 (hN (sR (nw (sR (nw (sR h 1223 s1 s0) 22 5 5) 1224 v0 (hN (sR h 1223 s1 s0))) 20 5 5) 1225 v0 (hN (sR (nw (sR h 1223 s1 s0) 22 5 5) 1224 v0 (hN (sR h 1223 s1 s0))))))) 20 20 20) Q))))) : WP d mX12_init 158 [some (.ref v0)] [.ref s0, .ref s1] h Q := by
  obtain ⟨g1, k⟩ := k
  refine w_putR dX12_init_158 f_12_75 t_12_23 (pf_in rfl rfl) g1 ?_
  refine w_aload_n dX12_init_161 rfl ?_
  refine w_iconst dX12_init_162 i1_5 ?_
  refine w_nar_float (m := 5) dX12_init_163 (by decide) (by decide) (by decide) ?_
  obtain ⟨g2, k⟩ := k
  refine w_putR dX12_init_165 f_12_78 t_12_24 (pf_in rfl rfl) g2 ?_
  refine w_aload_n dX12_init_168 rfl ?_
  refine w_iconst dX12_init_169 i1_5 ?_
  refine w_nar_int (m := 5) dX12_init_170 (by decide) (by decide) (by decide) ?_
  obtain ⟨g3, k⟩ := k
  refine w_putR dX12_init_172 f_12_81 t_12_25 (pf_in rfl rfl) g3 ?_
  refine w_aload_n dX12_init_175 rfl ?_
  refine w_iconst dX12_init_176 i1_5 ?_
  refine w_nar_float (m := 5) dX12_init_177 (by decide) (by decide) (by decide) ?_
  obtain ⟨g4, k⟩ := k
  refine w_putR dX12_init_179 f_12_84 t_12_26 (pf_in rfl rfl) g4 ?_
  refine w_aload_n dX12_init_182 rfl ?_
  refine w_bipush dX12_init_183 i2_20 ?_
  refine w_nar_int (m := 20) dX12_init_185 (by decide) (by decide) (by decide) ?_
  exact k
theorem bX12_init_187 {d : Nat} {h : HP} {Q : Out → HP → Prop} {v0 : Nat} {s0 : Nat} {s1 : Nat} (k : (hK h s1 = 12) ∧ ((hK (nw (sR h 1227 s1 s0) 20 20 20) v0 = 12) ∧ ((hK (nw (sR (nw (sR h 1227 s1 s0) 20 20 20) 1228 v0 (hN (sR h 1227 s1 s0))) 20 20 20) v0 = 12) ∧ ((hK (nw (sR (nw (sR (nw (sR h 1227 s1 s0) 20 20 20) 1228 v0 (hN (sR h 1227 s1 s0))) 20 20 20) 1229 v0 (hN (sR (nw (sR h 1227 s1 s0) 20 20 20) 1228 v0 (hN (sR h 1227 s1 s0))))) 20 20 20) v0 = 12) ∧ (WP d mX12_init 219 [some (.ref v0)] [.ref (hN (sR (nw (sR (nw (sR (nw (sR h 1227 s1 s0) 20 20 20) 1228 v0 (hN (sR h 1227 s1 s0))) 20 20 20) 1229 v0 (hN (sR (nw (sR h 1227 s1 s0) 20 20 20) 1228 v0 (hN (sR h 1227 s1 s0))))) 20 20 20) 1230 v0 (hN (sR (nw (sR (nw (sR h 1227 s1 s0) 20 20 20) 1228 v0 (hN (sR h 1227 s1 s0))) 20 20 20) 1229 v0 (hN (sR (nw (sR h 1227 s1 s0) 20 20 20) 1228 v0 (hN (sR h 1227 s1 s0)))))))), .ref v0] (nw (sR (nw (sR (nw (sR (nw (sR h 1227 s1 s0) 20 20 20) 1228 v0 (hN (sR h 1227 s1 s0))) 20 20 20) 1229 v0 (hN (sR (nw (sR h 1227 s1 s0) 20 20 20) 1228 v0 (hN (sR h 1227 s1 s0))))) 20 20 20) 1230 v0 (hN (sR (nw (sR (nw (sR h 1227 s1 s0) 20 20 20) 1228 v0 (hN (sR h 1227 s1 s0))) 20 20 20) 1229 v0 (hN (sR (nw (sR h 1227 s1 s0) 20 20 20) 1228 v0 (hN (sR h 1227 s1 s0))))))) 20 20 20) Q))))) : WP d mX12_init 187 [some (.ref v0)] [.ref s0, .ref s1] h Q := by
  obtain ⟨g1, k⟩ := k
  refine w_putR dX12_init_187 f_12_87 t_12_27 (pf_in rfl rfl) g1 ?_
  refine w_aload_n dX12_init_190 rfl ?_
  refine w_bipush dX12_init_191 i2_20 ?_
  refine w_nar_int (m := 20) dX12_init_193 (by decide) (by decide) (by decide) ?_
  obtain ⟨g2, k⟩ := k
  refine w_putR dX12_init_195 f_12_90 t_12_28 (pf_in rfl rfl) g2 ?_
  refine w_aload_n dX12_init_198 rfl ?_
  refine w_bipush dX12_init_199 i2_20 ?_
  refine w_nar_int (m := 20) dX12_init_201 (by decide) (by decide) (by decide) ?_
  obtain ⟨g3, k⟩ := k
  refine w_putR dX12_init_203 f_12_93 t_12_29 (pf_in rfl rfl) g3 ?_
  refine w_aload_n dX12_init_206 rfl ?_
  refine w_bipush dX12_init_207 i2_20 ?_
  refine w_nar_int (m := 20) dX12_init_209 (by decide) (by decide) (by decide) ?_
  obtain ⟨g4, k⟩ := k
  refine w_putR dX12_init_211 f_12_96 t_12_30 (pf_in rfl rfl) g4 ?_
  refine w_aload_n dX12_init_214 rfl ?_
  refine w_bipush dX12_init_215 i2_20 ?_
  refine w_nar_int (m := 20) dX12_init_217 (by decide) (by decide) (by decide) ?_
  exact k
theorem bX12_init_219 {d : Nat} {h : HP} {Q : Out → HP → Prop} {v0 : Nat} {s0 : Nat} {s1 : Nat} (k : (hK h s1 = 12) ∧ ((hK (nw (sR h 1231 s1 s0) 20 20 20) v0 = 12) ∧ ((hK (nw (sR (nw (sR h 1231 s1 s0) 20 20 20) 1232 v0 (hN (sR h 1231 s1 s0))) 20 20 20) v0 = 12) ∧ ((hK (nw (sR (nw (sR (nw (sR h 1231 s1 s0) 20 20 20) 1232 v0 (hN (sR h 1231 s1 s0))) 20 20 20) 1233 v0 (hN (sR (nw (sR h 1231 s1 s0) 20 20 20) 1232 v0 (hN (sR h 1231 s1 s0))))) 20 20 20) v0 = 12) ∧ (WP d mX12_init 251 [some (.ref v0)] [.ref (hN (sR (nw (sR (nw (sR (nw (sR h 1231 s1 s0) 20 20 20) 1232 v0 (hN (sR h 1231 s1 s0))) 20 20 20) 1233 v0 (hN (sR (nw (sR h 1231 s1 s0) 20 20 20) 1232 v0 (hN (sR h 1231 s1 s0))))) 20 20 20) 1234 v0 (hN (sR (nw (sR (nw (sR h 1231 s1 s0) 20 20 20) 1232 v0 (hN (sR h 1231 s1 s0))) 20 20 20) 1233 v0 (hN (sR (nw (sR h 1231 s1 s0) 20 20 20) 1232 v0 (hN (sR h 1231 s1 s0)))))))), .ref v0] (nw (sR (nw (sR (nw (sR (nw (sR h 1231 s1 s0) 20 20 20) 1232 v0 (hN (sR h 1231 s1 s0))) 20 20 20) 1233 v0 (hN (sR (nw (sR h 1231 s1 s0) 20 20 20) 1232 v0 (hN (sR h 1231 s1 s0))))) 20 20 20) 1234 v0 (hN (sR (nw (sR (nw (sR h 1231 s1 s0) 20 20 20) 1232 v0 (hN (sR h 1231 s1 s0))) 20 20 20) 1233 v0 (hN (sR (nw (sR h 1231 s1 s0) 20 20 20) 1232 v0 (hN (sR h 1231 s1 s0))))))) 21 20 20) Q))))) : WP d mX12_init 219 [some (.ref v0)] [.ref s0, .ref s1] h Q := by
  obtain ⟨g1, k⟩ := k
  refine w_putR dX12_init_219 f_12_99 t_12_31 (pf_in rfl rfl) g1 ?_
  refine w_aload_n dX12_init_222 rfl ?_
  refine w_bipush dX12_init_223 i2_20 ?_
  refine w_nar_int (m := 20) dX12_init_225 (by decide) (by decide) (by decide) ?_
  obtain ⟨g2, k⟩ := k
  refine w_putR dX12_init_227 f_12_102 t_12_32 (pf_in rfl rfl) g2 ?_
  refine w_aload_n dX12_init_230 rfl ?_
  refine w_bipush dX12_init_231 i2_20 ?_
  refine w_nar_int (m := 20) dX12_init_233 (by decide) (by decide) (by decide) ?_
  obtain ⟨g3, k⟩ := k
  refine w_putR dX12_init_235 f_12_105 t_12_33 (pf_in rfl rfl) g3 ?_
  refine w_aload_n dX12_init_238 rfl ?_
  refine w_bipush dX12_init_239 i2_20 ?_
  refine w_nar_int (m := 20) dX12_init_241 (by decide) (by decide) (by decide) ?_
  obtain ⟨g4, k⟩ := k
  refine w_putR dX12_init_243 f_12_108 t_12_34 (pf_in rfl rfl) g4 ?_
  refine w_aload_n dX12_init_246 rfl ?_
  refine w_bipush dX12_init_247 i2_20 ?_
  refine w_nar_boolean (m := 20) dX12_init_249 (by decide) (by decide) (by decide) ?_
  exact k
theorem bX12_init_251 {d : Nat} {h : HP} {Q : Out → HP → Prop} {v0 : Nat} {s0 : Nat} {s1 : Nat} (k : (hK h s1 = 12) ∧ ((hK (nw (sR h 1235 s1 s0) 20 20 20) v0 = 12) ∧ ((hK (nw (sR (nw (sR h 1235 s1 s0) 20 20 20) 1236 v0 (hN (sR h 1235 s1 s0))) 20 1440 1440) v0 = 12) ∧ ((hK (nw (sR (nw (sR (nw (sR h 1235 s1 s0) 20 20 20) 1236 v0 (hN (sR h 1235 s1 s0))) 20 1440 1440) 1237 v0 (hN (sR (nw (sR h 1235 s1 s0) 20 20 20) 1236 v0 (hN (sR h 1235 s1 s0))))) 22 60 60) v0 = 12) ∧ (WP d mX12_init 284 [some (.ref v0)] [.ref (hN (sR (nw (sR (nw (sR (nw (sR h 1235 s1 s0) 20 20 20) 1236 v0 (hN (sR h 1235 s1 s0))) 20 1440 1440) 1237 v0 (hN (sR (nw (sR h 1235 s1 s0) 20 20 20) 1236 v0 (hN (sR h 1235 s1 s0))))) 22 60 60) 1238 v0 (hN (sR (nw (sR (nw (sR h 1235 s1 s0) 20 20 20) 1236 v0 (hN (sR h 1235 s1 s0))) 20 1440 1440) 1237 v0 (hN (sR (nw (sR h 1235 s1 s0) 20 20 20) 1236 v0 (hN (sR h 1235 s1 s0)))))))), .ref v0] (nw (sR (nw (sR (nw (sR (nw (sR h 1235 s1 s0) 20 20 20) 1236 v0 (hN (sR h 1235 s1 s0))) 20 1440 1440) 1237 v0 (hN (sR (nw (sR h 1235 s1 s0) 20 20 20) 1236 v0 (hN (sR h 1235 s1 s0))))) 22 60 60) 1238 v0 (hN (sR (nw (sR (nw (sR h 1235 s1 s0) 20 20 20) 1236 v0 (hN (sR h 1235 s1 s0))) 20 1440 1440) 1237 v0 (hN (sR (nw (sR h 1235 s1 s0) 20 20 20) 1236 v0 (hN (sR h 1235 s1 s0))))))) 21 14 14) Q))))) : WP d mX12_init 251 [some (.ref v0)] [.ref s0, .ref s1] h Q := by
  obtain ⟨g1, k⟩ := k
  refine w_putR dX12_init_251 f_12_111 t_12_35 (pf_in rfl rfl) g1 ?_
  refine w_aload_n dX12_init_254 rfl ?_
  refine w_bipush dX12_init_255 i2_20 ?_
  refine w_nar_int (m := 20) dX12_init_257 (by decide) (by decide) (by decide) ?_
  obtain ⟨g2, k⟩ := k
  refine w_putR dX12_init_259 f_12_114 t_12_36 (pf_in rfl rfl) g2 ?_
  refine w_aload_n dX12_init_262 rfl ?_
  refine w_sipush dX12_init_263 i3_1440 ?_
  refine w_nar_int (m := 1440) dX12_init_266 (by decide) (by decide) (by decide) ?_
  obtain ⟨g3, k⟩ := k
  refine w_putR dX12_init_268 f_12_117 t_12_37 (pf_in rfl rfl) g3 ?_
  refine w_aload_n dX12_init_271 rfl ?_
  refine w_bipush dX12_init_272 i2_60 ?_
  refine w_nar_float (m := 60) dX12_init_274 (by decide) (by decide) (by decide) ?_
  obtain ⟨g4, k⟩ := k
  refine w_putR dX12_init_276 f_12_120 t_12_38 (pf_in rfl rfl) g4 ?_
  refine w_aload_n dX12_init_279 rfl ?_
  refine w_bipush dX12_init_280 i2_14 ?_
  refine w_nar_boolean (m := 14) dX12_init_282 (by decide) (by decide) (by decide) ?_
  exact k
theorem bX12_init_284 {d : Nat} {h : HP} {Q : Out → HP → Prop} {v0 : Nat} {s0 : Nat} {s1 : Nat} (k : (hK h s1 = 12) ∧ ((hK (nw (sR h 1241 s1 s0) 20 14 14) v0 = 12) ∧ ((hK (nw (sR (nw (sR h 1241 s1 s0) 20 14 14) 1242 v0 (hN (sR h 1241 s1 s0))) 20 14 14) v0 = 12) ∧ ((hK (nw (sR (nw (sR (nw (sR h 1241 s1 s0) 20 14 14) 1242 v0 (hN (sR h 1241 s1 s0))) 20 14 14) 1243 v0 (hN (sR (nw (sR h 1241 s1 s0) 20 14 14) 1242 v0 (hN (sR h 1241 s1 s0))))) 20 14 14) v0 = 12) ∧ (WP d mX12_init 316 [some (.ref v0)] [.ref (hN (sR (nw (sR (nw (sR (nw (sR h 1241 s1 s0) 20 14 14) 1242 v0 (hN (sR h 1241 s1 s0))) 20 14 14) 1243 v0 (hN (sR (nw (sR h 1241 s1 s0) 20 14 14) 1242 v0 (hN (sR h 1241 s1 s0))))) 20 14 14) 1244 v0 (hN (sR (nw (sR (nw (sR h 1241 s1 s0) 20 14 14) 1242 v0 (hN (sR h 1241 s1 s0))) 20 14 14) 1243 v0 (hN (sR (nw (sR h 1241 s1 s0) 20 14 14) 1242 v0 (hN (sR h 1241 s1 s0)))))))), .ref v0] (nw (sR (nw (sR (nw (sR (nw (sR h 1241 s1 s0) 20 14 14) 1242 v0 (hN (sR h 1241 s1 s0))) 20 14 14) 1243 v0 (hN (sR (nw (sR h 1241 s1 s0) 20 14 14) 1242 v0 (hN (sR h 1241 s1 s0))))) 20 14 14) 1244 v0 (hN (sR (nw (sR (nw (sR h 1241 s1 s0) 20 14 14) 1242 v0 (hN (sR h 1241 s1 s0))) 20 14 14) 1243 v0 (hN (sR (nw (sR h 1241 s1 s0) 20 14 14) 1242 v0 (hN (sR h 1241 s1 s0))))))) 20 14 14) Q))))) : WP d mX12_init 284 [some (.ref v0)] [.ref s0, .ref s1] h Q := by
  obtain ⟨g1, k⟩ := k
  refine w_putR dX12_init_284 f_12_123 t_12_41 (pf_in rfl rfl) g1 ?_
  refine w_aload_n dX12_init_287 rfl ?_
  refine w_bipush dX12_init_288 i2_14 ?_
  refine w_nar_int (m := 14) dX12_init_290 (by decide) (by decide) (by decide) ?_
  obtain ⟨g2, k⟩ := k
  refine w_putR dX12_init_292 f_12_126 t_12_42 (pf_in rfl rfl) g2 ?_
  refine w_aload_n dX12_init_295 rfl ?_
  refine w_bipush dX12_init_296 i2_14 ?_
  refine w_nar_int (m := 14) dX12_init_298 (by decide) (by decide) (by decide) ?_
  obtain ⟨g3, k⟩ := k
  refine w_putR dX12_init_300 f_12_129 t_12_43 (pf_in rfl rfl) g3 ?_
  refine w_aload_n dX12_init_303 rfl ?_
  refine w_bipush dX12_init_304 i2_14 ?_
  refine w_nar_int (m := 14) dX12_init_306 (by decide) (by decide) (by decide) ?_
  obtain ⟨g4, k⟩ := k
  refine w_putR dX12_init_308 f_12_132 t_12_44 (pf_in rfl rfl) g4 ?_
  refine w_aload_n dX12_init_311 rfl ?_
  refine w_bipush dX12_init_312 i2_14 ?_
  refine w_nar_int (m := 14) dX12_init_314 (by decide) (by decide) (by decide) ?_
  exact k
theorem bX12_init_316 {d : Nat} {h : HP} {Q : Out → HP → Prop} {v0 : Nat} {s0 : Nat} {s1 : Nat} (k : (hK h s1 = 12) ∧ ((hK (nw (sR h 1245 s1 s0) 20 14 14) v0 = 12) ∧ ((hK (nw (sR (nw (sR h 1245 s1 s0) 20 14 14) 1246 v0 (hN (sR h 1245 s1 s0))) 20 16384 16384) v0 = 12) ∧ ((hK (nw (sR (nw (sR (nw (sR h 1245 s1 s0) 20 14 14) 1246 v0 (hN (sR h 1245 s1 s0))) 20 16384 16384) 1248 v0 (hN (sR (nw (sR h 1245 s1 s0) 20 14 14) 1246 v0 (hN (sR h 1245 s1 s0))))) 20 24 24) v0 = 12) ∧ ((1 < v0) ∧ ((hK (sR (nw (sR (nw (sR (nw (sR h 1245 s1 s0) 20 14 14) 1246 v0 (hN (sR h 1245 s1 s0))) 20 16384 16384) 1248 v0 (hN (sR (nw (sR h 1245 s1 s0) 20 14 14) 1246 v0 (hN (sR h 1245 s1 s0))))) 20 24 24) 1249 v0 (hN (sR (nw (sR (nw (sR h 1245 s1 s0) 20 14 14) 1246 v0 (hN (sR h 1245 s1 s0))) 20 16384 16384) 1248 v0 (hN (sR (nw (sR h 1245 s1 s0) 20 14 14) 1246 v0 (hN (sR h 1245 s1 s0))))))) v0 = 12) ∧ (WP d mX12_begins 0 [some (.ref v0), some (.int (3 : Int32)), none] [] (sR (nw (sR (nw (sR (nw (sR h 1245 s1 s0) 20 14 14) 1246 v0 (hN (sR h 1245 s1 s0))) 20 16384 16384) 1248 v0 (hN (sR (nw (sR h 1245 s1 s0) 20 14 14) 1246 v0 (hN (sR h 1245 s1 s0))))) 20 24 24) 1249 v0 (hN (sR (nw (sR (nw (sR h 1245 s1 s0) 20 14 14) 1246 v0 (hN (sR h 1245 s1 s0))) 20 16384 16384) 1248 v0 (hN (sR (nw (sR h 1245 s1 s0) 20 14 14) 1246 v0 (hN (sR h 1245 s1 s0))))))) (KK d mX12_init mX12_begins 346 [some (.ref v0)] [] Q)))))))) : WP (d + 1) mX12_init 316 [some (.ref v0)] [.ref s0, .ref s1] h Q := by
  obtain ⟨g1, k⟩ := k
  refine w_putR dX12_init_316 f_12_135 t_12_45 (pf_in rfl rfl) g1 ?_
  refine w_aload_n dX12_init_319 rfl ?_
  refine w_bipush dX12_init_320 i2_14 ?_
  refine w_nar_int (m := 14) dX12_init_322 (by decide) (by decide) (by decide) ?_
  obtain ⟨g2, k⟩ := k
  refine w_putR dX12_init_324 f_12_138 t_12_46 (pf_in rfl rfl) g2 ?_
  refine w_aload_n dX12_init_327 rfl ?_
  refine w_sipush dX12_init_328 i3_16384 ?_
  refine w_nar_int (m := 16384) dX12_init_331 (by decide) (by decide) (by decide) ?_
  obtain ⟨g3, k⟩ := k
  refine w_putR dX12_init_333 f_12_141 t_12_48 (pf_in rfl rfl) g3 ?_
  refine w_aload_n dX12_init_336 rfl ?_
  refine w_bipush dX12_init_337 i2_24 ?_
  refine w_nar_int (m := 24) dX12_init_339 (by decide) (by decide) (by decide) ?_
  obtain ⟨g4, k⟩ := k
  refine w_putR dX12_init_341 f_12_144 t_12_49 (pf_in rfl rfl) g4 ?_
  refine w_aload_n dX12_init_344 rfl ?_
  refine w_iconst dX12_init_345 i1_3 ?_
  obtain ⟨g5, k⟩ := k
  obtain ⟨g6, k⟩ := k
  exact w_virt (as1 := [.int (3 : Int32), .ref v0]) (as2 := [.ref v0, .int (3 : Int32)]) (rest := []) (lo2 := [some (.ref v0), some (.int (3 : Int32)), none]) dX12_init_346 c_12_147 rfl rfl rfl (Nat.le_of_ble_eq_true rfl) (Nat.le_of_ble_eq_true rfl) rfl (Nat.le_of_ble_eq_true rfl) rfl rfl g5 g6 k
theorem bX12_init_349 {d : Nat} {h : HP} {Q : Out → HP → Prop} {v0 : Nat} (k : Q (.inl none) h) : WP d mX12_init 349 [some (.ref v0)] [] h Q := by
  exact w_return dX12_init_349 rfl k
theorem bX12_thrown_0 {d : Nat} {h : HP} {Q : Out → HP → Prop} {v0 : Nat} (k : (hK h v0 = 12) ∧ (Q (.inl (some (.int (hI h 1250 v0)))) h)) : WP d mX12_thrown 0 [some (.ref v0)] [] h Q := by
  refine w_aload_n dX12_thrown_0 rfl ?_
  obtain ⟨g1, k⟩ := k
  refine w_getI dX12_thrown_1 f_12_151 t_12_50 g1 ?_
  exact w_ireturn dX12_thrown_4 rfl k
theorem bX12_in_0 {d : Nat} {h : HP} {Q : Out → HP → Prop} {v0 : Int32} {v1 : Int32} {v2 : Int32} (k : ((v0 < v1) → Q (.inl (some (.int (0 : Int32)))) h) ∧ ((¬ (v0 < v1)) → ((v2 < v0) → Q (.inl (some (.int (0 : Int32)))) h) ∧ ((¬ (v2 < v0)) → Q (.inl (some (.int (1 : Int32)))) h))) : WP d mX12_in 0 [some (.int v0), some (.int v1), some (.int v2)] [] h Q := by
  refine w_iload_n dX12_in_0 rfl ?_
  refine w_iload_n dX12_in_1 rfl ?_
  refine w_ic_lt (pc' := 14) dX12_in_2 rfl rfl ⟨fun c => ?_, fun c => ?_⟩
  · replace k := k.1 c
    refine w_iconst dX12_in_14 i1_0 ?_
    exact w_ireturn dX12_in_15 rfl k
  · replace k := k.2 c
    refine w_iload_n dX12_in_5 rfl ?_
    refine w_iload_n dX12_in_6 rfl ?_
    refine w_ic_gt (pc' := 14) dX12_in_7 rfl rfl ⟨fun c => ?_, fun c => ?_⟩
    · replace k := k.1 c
      refine w_iconst dX12_in_14 i1_0 ?_
      exact w_ireturn dX12_in_15 rfl k
    · replace k := k.2 c
      refine w_iconst dX12_in_10 i1_1 ?_
      refine w_goto (pc' := 15) dX12_in_11 rfl rfl ?_
      exact w_ireturn dX12_in_15 rfl k
theorem bX12_goes_0 {d : Nat} {h : HP} {Q : Out → HP → Prop} {v0 : Nat} {v1 : Int32} {v2 : Int32} {v3 : Int32} (k : ((¬ v1 = 0) → ((¬ v2 = 0) → ((v3 = 0) → (hK h v0 = 12) ∧ ((hK (sI h 1250 v0 (3 : Int32)) v0 = 12) ∧ (((¬ (hI (sI h 1250 v0 (3 : Int32)) 1250 v0) = 0) → Q (.inl (some (.int (0 : Int32)))) (sI h 1250 v0 (3 : Int32))) ∧ ((¬ (¬ (hI (sI h 1250 v0 (3 : Int32)) 1250 v0) = 0)) → Q (.inl (some (.int (1 : Int32)))) (sI h 1250 v0 (3 : Int32)))))) ∧ ((¬ (v3 = 0)) → (hK h v0 = 12) ∧ ((hK (sI h 1250 v0 (0 : Int32)) v0 = 12) ∧ (((¬ (hI (sI h 1250 v0 (0 : Int32)) 1250 v0) = 0) → Q (.inl (some (.int (0 : Int32)))) (sI h 1250 v0 (0 : Int32))) ∧ ((¬ (¬ (hI (sI h 1250 v0 (0 : Int32)) 1250 v0) = 0)) → Q (.inl (some (.int (1 : Int32)))) (sI h 1250 v0 (0 : Int32))))))) ∧ ((¬ (¬ v2 = 0)) → (hK h v0 = 12) ∧ ((hK (sI h 1250 v0 (2 : Int32)) v0 = 12) ∧ (((¬ (hI (sI h 1250 v0 (2 : Int32)) 1250 v0) = 0) → Q (.inl (some (.int (0 : Int32)))) (sI h 1250 v0 (2 : Int32))) ∧ ((¬ (¬ (hI (sI h 1250 v0 (2 : Int32)) 1250 v0) = 0)) → Q (.inl (some (.int (1 : Int32)))) (sI h 1250 v0 (2 : Int32))))))) ∧ ((¬ (¬ v1 = 0)) → (hK h v0 = 12) ∧ ((hK (sI h 1250 v0 (1 : Int32)) v0 = 12) ∧ (((¬ (hI (sI h 1250 v0 (1 : Int32)) 1250 v0) = 0) → Q (.inl (some (.int (0 : Int32)))) (sI h 1250 v0 (1 : Int32))) ∧ ((¬ (¬ (hI (sI h 1250 v0 (1 : Int32)) 1250 v0) = 0)) → Q (.inl (some (.int (1 : Int32)))) (sI h 1250 v0 (1 : Int32))))))) : WP d mX12_goes 0 [some (.ref v0), some (.int v1), some (.int v2), some (.int v3)] [] h Q := by
  refine w_aload_n dX12_goes_0 rfl ?_
  refine w_iload_n dX12_goes_1 rfl ?_
  refine w_if_ne (pc' := 9) dX12_goes_2 rfl rfl ⟨fun c => ?_, fun c => ?_⟩
  · replace k := k.1 c
    refine w_iload_n dX12_goes_9 rfl ?_
    refine w_if_ne (pc' := 17) dX12_goes_10 rfl rfl ⟨fun c => ?_, fun c => ?_⟩
    · replace k := k.1 c
      refine w_iload_n dX12_goes_17 rfl ?_
      refine w_if_eq (pc' := 25) dX12_goes_18 rfl rfl ⟨fun c => ?_, fun c => ?_⟩
      · replace k := k.1 c
        refine w_iconst dX12_goes_25 i1_3 ?_
        obtain ⟨g1, k⟩ := k
        refine w_putI dX12_goes_26 f_12_151 t_12_50 (pf_nf n_12_50) g1 ?_
        refine w_aload_n dX12_goes_29 rfl ?_
        obtain ⟨g2, k⟩ := k
        refine w_getI dX12_goes_30 f_12_151 t_12_50 g2 ?_
        refine w_if_ne (pc' := 40) dX12_goes_33 rfl rfl ⟨fun c => ?_, fun c => ?_⟩
        · replace k := k.1 c
          refine w_iconst dX12_goes_40 i1_0 ?_
          exact w_ireturn dX12_goes_41 rfl k
        · replace k := k.2 c
          refine w_iconst dX12_goes_36 i1_1 ?_
          refine w_goto (pc' := 41) dX12_goes_37 rfl rfl ?_
          exact w_ireturn dX12_goes_41 rfl k
      · replace k := k.2 c
        refine w_iconst dX12_goes_21 i1_0 ?_
        refine w_goto (pc' := 26) dX12_goes_22 rfl rfl ?_
        obtain ⟨g3, k⟩ := k
        refine w_putI dX12_goes_26 f_12_151 t_12_50 (pf_nf n_12_50) g3 ?_
        refine w_aload_n dX12_goes_29 rfl ?_
        obtain ⟨g4, k⟩ := k
        refine w_getI dX12_goes_30 f_12_151 t_12_50 g4 ?_
        refine w_if_ne (pc' := 40) dX12_goes_33 rfl rfl ⟨fun c => ?_, fun c => ?_⟩
        · replace k := k.1 c
          refine w_iconst dX12_goes_40 i1_0 ?_
          exact w_ireturn dX12_goes_41 rfl k
        · replace k := k.2 c
          refine w_iconst dX12_goes_36 i1_1 ?_
          refine w_goto (pc' := 41) dX12_goes_37 rfl rfl ?_
          exact w_ireturn dX12_goes_41 rfl k
    · replace k := k.2 c
      refine w_iconst dX12_goes_13 i1_2 ?_
      refine w_goto (pc' := 26) dX12_goes_14 rfl rfl ?_
      obtain ⟨g5, k⟩ := k
      refine w_putI dX12_goes_26 f_12_151 t_12_50 (pf_nf n_12_50) g5 ?_
      refine w_aload_n dX12_goes_29 rfl ?_
      obtain ⟨g6, k⟩ := k
      refine w_getI dX12_goes_30 f_12_151 t_12_50 g6 ?_
      refine w_if_ne (pc' := 40) dX12_goes_33 rfl rfl ⟨fun c => ?_, fun c => ?_⟩
      · replace k := k.1 c
        refine w_iconst dX12_goes_40 i1_0 ?_
        exact w_ireturn dX12_goes_41 rfl k
      · replace k := k.2 c
        refine w_iconst dX12_goes_36 i1_1 ?_
        refine w_goto (pc' := 41) dX12_goes_37 rfl rfl ?_
        exact w_ireturn dX12_goes_41 rfl k
  · replace k := k.2 c
    refine w_iconst dX12_goes_5 i1_1 ?_
    refine w_goto (pc' := 26) dX12_goes_6 rfl rfl ?_
    obtain ⟨g7, k⟩ := k
    refine w_putI dX12_goes_26 f_12_151 t_12_50 (pf_nf n_12_50) g7 ?_
    refine w_aload_n dX12_goes_29 rfl ?_
    obtain ⟨g8, k⟩ := k
    refine w_getI dX12_goes_30 f_12_151 t_12_50 g8 ?_
    refine w_if_ne (pc' := 40) dX12_goes_33 rfl rfl ⟨fun c => ?_, fun c => ?_⟩
    · replace k := k.1 c
      refine w_iconst dX12_goes_40 i1_0 ?_
      exact w_ireturn dX12_goes_41 rfl k
    · replace k := k.2 c
      refine w_iconst dX12_goes_36 i1_1 ?_
      refine w_goto (pc' := 41) dX12_goes_37 rfl rfl ?_
      exact w_ireturn dX12_goes_41 rfl k
theorem bX12_isMachine_0 {d : Nat} {h : HP} {Q : Out → HP → Prop} {v0 : Nat} {v1 : Int32} (k : (hK h v0 = 12) ∧ (WP d mX12_in 0 [some (.int v1), some (.int (0 : Int32)), some (.int ((hI h 1200 v0) - (1 : Int32)))] [] h (KK d mX12_isMachine mX12_in 8 [some (.ref v0), some (.int v1)] [] Q))) : WP (d + 1) mX12_isMachine 0 [some (.ref v0), some (.int v1)] [] h Q := by
  refine w_iload_n dX12_isMachine_0 rfl ?_
  refine w_iconst dX12_isMachine_1 i1_0 ?_
  refine w_aload_n dX12_isMachine_2 rfl ?_
  obtain ⟨g1, k⟩ := k
  refine w_getI dX12_isMachine_3 f_12_7 t_12_0 g1 ?_
  refine w_iconst dX12_isMachine_6 i1_1 ?_
  refine w_isub dX12_isMachine_7 ?_
  exact w_stat (as1 := [.int ((hI h 1200 v0) - (1 : Int32)), .int (0 : Int32), .int v1]) (as2 := [.int v1, .int (0 : Int32), .int ((hI h 1200 v0) - (1 : Int32))]) (rest := []) (lo2 := [some (.int v1), some (.int (0 : Int32)), some (.int ((hI h 1200 v0) - (1 : Int32)))]) dX12_isMachine_8 c_12_154 rfl rfl rfl (Nat.le_of_ble_eq_true rfl) (Nat.le_of_ble_eq_true rfl) rfl (Nat.le_of_ble_eq_true rfl) rfl k
theorem bX12_isMachine_11 {d : Nat} {h : HP} {Q : Out → HP → Prop} {v0 : Nat} {v1 : Int32} {s0 : Int32} (k : (isZ s0 = true) ∧ (Q (.inl (some (.int s0))) h)) : WP d mX12_isMachine 11 [some (.ref v0), some (.int v1)] [.int s0] h Q := by
  obtain ⟨g1, k⟩ := k
  exact w_ireturn dX12_isMachine_11 g1 k
theorem bX12_most_0 {d : Nat} {h : HP} {Q : Out → HP → Prop} {v0 : Nat} (k : (hK h v0 = 12) ∧ (Q (.inl (some (.int (((hI h 1200 v0) / (2 : Int32)) + (1 : Int32))))) h)) : WP d mX12_most 0 [some (.ref v0)] [] h Q := by
  refine w_aload_n dX12_most_0 rfl ?_
  obtain ⟨g1, k⟩ := k
  refine w_getI dX12_most_1 f_12_7 t_12_0 g1 ?_
  refine w_iconst dX12_most_4 i1_2 ?_
  refine w_idiv dX12_most_5 (by decide) ?_
  refine w_iconst dX12_most_6 i1_1 ?_
  refine w_iadd dX12_most_7 ?_
  exact w_ireturn dX12_most_8 rfl k
theorem bX12_bits_0 {d : Nat} {h : HP} {Q : Out → HP → Prop} {v0 : Int32} {u1 : Option Value} {u2 : Option Value} (k : WP d mX12_bits 4 [some (.int v0), some (.int (0 : Int32)), some (.int (0 : Int32))] [] h Q) : WP d mX12_bits 0 [some (.int v0), u1, u2] [] h Q := by
  refine w_iconst dX12_bits_0 i1_0 ?_
  refine w_istore_n (lo' := [some (.int v0), some (.int (0 : Int32)), u2]) dX12_bits_1 (ltQ rfl) rfl ?_
  refine w_iconst dX12_bits_2 i1_0 ?_
  refine w_istore_n (lo' := [some (.int v0), some (.int (0 : Int32)), some (.int (0 : Int32))]) dX12_bits_3 (ltQ rfl) rfl ?_
  exact k
theorem bX12_bits_4 {d : Nat} {h : HP} {Q : Out → HP → Prop} {v0 : Int32} {v1 : Int32} {v2 : Int32} (k : (((5 : Int32) ≤ v2) → Q (.inl (some (.int v1))) h) ∧ ((¬ ((5 : Int32) ≤ v2)) → WP d mX12_bits 4 [some (.int v0), some (.int (v1 + ((v0 >>> (v2 &&& 31)) &&& (1 : Int32)))), some (.int (v2 + (1 : Int32)))] [] h Q)) : WP d mX12_bits 4 [some (.int v0), some (.int v1), some (.int v2)] [] h Q := by
  refine w_iload_n dX12_bits_4 rfl ?_
  refine w_iconst dX12_bits_5 i1_5 ?_
  refine w_ic_ge (pc' := 23) dX12_bits_6 rfl rfl ⟨fun c => ?_, fun c => ?_⟩
  · replace k := k.1 c
    refine w_iload_n dX12_bits_23 rfl ?_
    exact w_ireturn dX12_bits_24 rfl k
  · replace k := k.2 c
    refine w_iload_n dX12_bits_9 rfl ?_
    refine w_iload_n dX12_bits_10 rfl ?_
    refine w_iload_n dX12_bits_11 rfl ?_
    refine w_ishr dX12_bits_12 ?_
    refine w_iconst dX12_bits_13 i1_1 ?_
    refine w_iand dX12_bits_14 ?_
    refine w_iadd dX12_bits_15 ?_
    refine w_istore_n (lo' := [some (.int v0), some (.int (v1 + ((v0 >>> (v2 &&& 31)) &&& (1 : Int32)))), some (.int v2)]) dX12_bits_16 (ltQ rfl) rfl ?_
    refine w_iinc (lo' := [some (.int v0), some (.int (v1 + ((v0 >>> (v2 &&& 31)) &&& (1 : Int32)))), some (.int (v2 + (1 : Int32)))]) dX12_bits_17 rfl i1_1 rfl ?_
    refine w_goto (pc' := 4) dX12_bits_20 rfl rfl ?_
    exact k
theorem bX12_begins_0 {d : Nat} {h : HP} {Q : Out → HP → Prop} {v0 : Nat} {v1 : Int32} {u2 : Option Value} (k : (hK h v0 = 12) ∧ ((hK (sI h 1200 v0 v1) v0 = 12) ∧ ((hK (sF (sI h 1200 v0 v1) 1201 v0 FP.fconst0) v0 = 12) ∧ ((hK (sF (sF (sI h 1200 v0 v1) 1201 v0 FP.fconst0) 1202 v0 (1092616192 : UInt32)) v0 = 12) ∧ ((hK (sF (sF (sF (sI h 1200 v0 v1) 1201 v0 FP.fconst0) 1202 v0 (1092616192 : UInt32)) 1203 v0 FP.fconst0) v0 = 12) ∧ ((hK (sI (sF (sF (sF (sI h 1200 v0 v1) 1201 v0 FP.fconst0) 1202 v0 (1092616192 : UInt32)) 1203 v0 FP.fconst0) 1204 v0 (0 : Int32)) v0 = 12) ∧ ((hK (sI (sI (sF (sF (sF (sI h 1200 v0 v1) 1201 v0 FP.fconst0) 1202 v0 (1092616192 : UInt32)) 1203 v0 FP.fconst0) 1204 v0 (0 : Int32)) 1239 v0 (0 : Int32)) v0 = 12) ∧ (WP d mX12_begins 38 [some (.ref v0), some (.int v1), some (.int (0 : Int32))] [] (sI (sI (sI (sF (sF (sF (sI h 1200 v0 v1) 1201 v0 FP.fconst0) 1202 v0 (1092616192 : UInt32)) 1203 v0 FP.fconst0) 1204 v0 (0 : Int32)) 1239 v0 (0 : Int32)) 1247 v0 (0 : Int32)) Q)))))))) : WP d mX12_begins 0 [some (.ref v0), some (.int v1), u2] [] h Q := by
  refine w_aload_n dX12_begins_0 rfl ?_
  refine w_iload_n dX12_begins_1 rfl ?_
  obtain ⟨g1, k⟩ := k
  refine w_putI dX12_begins_2 f_12_7 t_12_0 (pf_nf n_12_0) g1 ?_
  refine w_aload_n dX12_begins_5 rfl ?_
  refine w_fconst0 dX12_begins_6 ?_
  obtain ⟨g2, k⟩ := k
  refine w_putF dX12_begins_7 f_12_158 t_12_1 (pf_nf n_12_1) g2 ?_
  refine w_aload_n dX12_begins_10 rfl ?_
  refine w_ldc dX12_begins_11 l_12_13 ?_
  obtain ⟨g3, k⟩ := k
  refine w_putF dX12_begins_13 f_12_14 t_12_2 (pf_nf n_12_2) g3 ?_
  refine w_aload_n dX12_begins_16 rfl ?_
  refine w_fconst0 dX12_begins_17 ?_
  obtain ⟨g4, k⟩ := k
  refine w_putF dX12_begins_18 f_12_161 t_12_3 (pf_nf n_12_3) g4 ?_
  refine w_aload_n dX12_begins_21 rfl ?_
  refine w_iconst dX12_begins_22 i1_0 ?_
  obtain ⟨g5, k⟩ := k
  refine w_putI dX12_begins_23 f_12_164 t_12_4 (pf_nf n_12_4) g5 ?_
  refine w_aload_n dX12_begins_26 rfl ?_
  refine w_iconst dX12_begins_27 i1_0 ?_
  obtain ⟨g6, k⟩ := k
  refine w_putI dX12_begins_28 f_12_167 t_12_39 (pf_nf n_12_39) g6 ?_
  refine w_aload_n dX12_begins_31 rfl ?_
  refine w_iconst dX12_begins_32 i1_0 ?_
  obtain ⟨g7, k⟩ := k
  refine w_putI dX12_begins_33 f_12_170 t_12_47 (pf_nf n_12_47) g7 ?_
  refine w_iconst dX12_begins_36 i1_0 ?_
  refine w_istore_n (lo' := [some (.ref v0), some (.int v1), some (.int (0 : Int32))]) dX12_begins_37 (ltQ rfl) rfl ?_
  exact k
theorem bX12_begins_38 {d : Nat} {h : HP} {Q : Out → HP → Prop} {v0 : Nat} {v1 : Int32} {v2 : Int32} (k : (((5 : Int32) ≤ v2) → WP d mX12_begins 128 [some (.ref v0), some (.int v1), some (.int (0 : Int32))] [] h Q) ∧ ((¬ ((5 : Int32) ≤ v2)) → (hK h v0 = 12) ∧ ((hK h (hR h 1205 v0) = 21) ∧ ((inA h (hR h 1205 v0) v2 = true) ∧ ((hK (sAI h (hR h 1205 v0) (v2).toNatClampNeg (1 : Int32)) v0 = 12) ∧ ((hK (sAI h (hR h 1205 v0) (v2).toNatClampNeg (1 : Int32)) (hR (sAI h (hR h 1205 v0) (v2).toNatClampNeg (1 : Int32)) 1207 v0) = 22) ∧ ((inA (sAI h (hR h 1205 v0) (v2).toNatClampNeg (1 : Int32)) (hR (sAI h (hR h 1205 v0) (v2).toNatClampNeg (1 : Int32)) 1207 v0) v2 = true) ∧ ((hK (sAF (sAI h (hR h 1205 v0) (v2).toNatClampNeg (1 : Int32)) (hR (sAI h (hR h 1205 v0) (v2).toNatClampNeg (1 : Int32)) 1207 v0) (v2).toNatClampNeg FP.fconst0) v0 = 12) ∧ ((hK (sAF (sAI h (hR h 1205 v0) (v2).toNatClampNeg (1 : Int32)) (hR (sAI h (hR h 1205 v0) (v2).toNatClampNeg (1 : Int32)) 1207 v0) (v2).toNatClampNeg FP.fconst0) (hR (sAF (sAI h (hR h 1205 v0) (v2).toNatClampNeg (1 : Int32)) (hR (sAI h (hR h 1205 v0) (v2).toNatClampNeg (1 : Int32)) 1207 v0) (v2).toNatClampNeg FP.fconst0) 1208 v0) = 22) ∧ ((inA (sAF (sAI h (hR h 1205 v0) (v2).toNatClampNeg (1 : Int32)) (hR (sAI h (hR h 1205 v0) (v2).toNatClampNeg (1 : Int32)) 1207 v0) (v2).toNatClampNeg FP.fconst0) (hR (sAF (sAI h (hR h 1205 v0) (v2).toNatClampNeg (1 : Int32)) (hR (sAI h (hR h 1205 v0) (v2).toNatClampNeg (1 : Int32)) 1207 v0) (v2).toNatClampNeg FP.fconst0) 1208 v0) v2 = true) ∧ ((hK (sAF (sAF (sAI h (hR h 1205 v0) (v2).toNatClampNeg (1 : Int32)) (hR (sAI h (hR h 1205 v0) (v2).toNatClampNeg (1 : Int32)) 1207 v0) (v2).toNatClampNeg FP.fconst0) (hR (sAF (sAI h (hR h 1205 v0) (v2).toNatClampNeg (1 : Int32)) (hR (sAI h (hR h 1205 v0) (v2).toNatClampNeg (1 : Int32)) 1207 v0) (v2).toNatClampNeg FP.fconst0) 1208 v0) (v2).toNatClampNeg FP.fconst1) v0 = 12) ∧ (WP d mX12_begins 68 [some (.ref v0), some (.int v1), some (.int v2)] [.ref (hR (sAF (sAF (sAI h (hR h 1205 v0) (v2).toNatClampNeg (1 : Int32)) (hR (sAI h (hR h 1205 v0) (v2).toNatClampNeg (1 : Int32)) 1207 v0) (v2).toNatClampNeg FP.fconst0) (hR (sAF (sAI h (hR h 1205 v0) (v2).toNatClampNeg (1 : Int32)) (hR (sAI h (hR h 1205 v0) (v2).toNatClampNeg (1 : Int32)) 1207 v0) (v2).toNatClampNeg FP.fconst0) 1208 v0) (v2).toNatClampNeg FP.fconst1) 1209 v0)] (sAF (sAF (sAI h (hR h 1205 v0) (v2).toNatClampNeg (1 : Int32)) (hR (sAI h (hR h 1205 v0) (v2).toNatClampNeg (1 : Int32)) 1207 v0) (v2).toNatClampNeg FP.fconst0) (hR (sAF (sAI h (hR h 1205 v0) (v2).toNatClampNeg (1 : Int32)) (hR (sAI h (hR h 1205 v0) (v2).toNatClampNeg (1 : Int32)) 1207 v0) (v2).toNatClampNeg FP.fconst0) 1208 v0) (v2).toNatClampNeg FP.fconst1) Q)))))))))))) : WP d mX12_begins 38 [some (.ref v0), some (.int v1), some (.int v2)] [] h Q := by
  refine w_iload_n dX12_begins_38 rfl ?_
  refine w_iconst dX12_begins_39 i1_5 ?_
  refine w_ic_ge (pc' := 126) dX12_begins_40 rfl rfl ⟨fun c => ?_, fun c => ?_⟩
  · replace k := k.1 c
    refine w_iconst dX12_begins_126 i1_0 ?_
    refine w_istore_n (lo' := [some (.ref v0), some (.int v1), some (.int (0 : Int32))]) dX12_begins_127 (ltQ rfl) rfl ?_
    exact k
  · replace k := k.2 c
    refine w_aload_n dX12_begins_43 rfl ?_
    obtain ⟨g1, k⟩ := k
    refine w_getR dX12_begins_44 f_12_18 t_12_5 g1 ?_
    refine w_iload_n dX12_begins_47 rfl ?_
    refine w_iconst dX12_begins_48 i1_1 ?_
    obtain ⟨g2, k⟩ := k
    obtain ⟨g3, k⟩ := k
    refine w_bastore dX12_begins_49 g2 g3 rfl ?_
    refine w_aload_n dX12_begins_50 rfl ?_
    obtain ⟨g4, k⟩ := k
    refine w_getR dX12_begins_51 f_12_25 t_12_7 g4 ?_
    refine w_iload_n dX12_begins_54 rfl ?_
    refine w_fconst0 dX12_begins_55 ?_
    obtain ⟨g5, k⟩ := k
    obtain ⟨g6, k⟩ := k
    refine w_fastore dX12_begins_56 g5 g6 ?_
    refine w_aload_n dX12_begins_57 rfl ?_
    obtain ⟨g7, k⟩ := k
    refine w_getR dX12_begins_58 f_12_29 t_12_8 g7 ?_
    refine w_iload_n dX12_begins_61 rfl ?_
    refine w_fconst1 dX12_begins_62 ?_
    obtain ⟨g8, k⟩ := k
    obtain ⟨g9, k⟩ := k
    refine w_fastore dX12_begins_63 g8 g9 ?_
    refine w_aload_n dX12_begins_64 rfl ?_
    obtain ⟨g10, k⟩ := k
    refine w_getR dX12_begins_65 f_12_32 t_12_9 g10 ?_
    exact k
theorem bX12_begins_68 {d : Nat} {h : HP} {Q : Out → HP → Prop} {v0 : Nat} {v1 : Int32} {v2 : Int32} {s0 : Nat} (k : (hK h s0 = 20) ∧ ((inA h s0 v2 = true) ∧ ((hK (sAI h s0 (v2).toNatClampNeg (0 : Int32)) v0 = 12) ∧ ((hK (sAI h s0 (v2).toNatClampNeg (0 : Int32)) (hR (sAI h s0 (v2).toNatClampNeg (0 : Int32)) 1210 v0) = 20) ∧ ((inA (sAI h s0 (v2).toNatClampNeg (0 : Int32)) (hR (sAI h s0 (v2).toNatClampNeg (0 : Int32)) 1210 v0) v2 = true) ∧ ((hK (sAI (sAI h s0 (v2).toNatClampNeg (0 : Int32)) (hR (sAI h s0 (v2).toNatClampNeg (0 : Int32)) 1210 v0) (v2).toNatClampNeg (-1 : Int32)) v0 = 12) ∧ ((hK (sAI (sAI h s0 (v2).toNatClampNeg (0 : Int32)) (hR (sAI h s0 (v2).toNatClampNeg (0 : Int32)) 1210 v0) (v2).toNatClampNeg (-1 : Int32)) (hR (sAI (sAI h s0 (v2).toNatClampNeg (0 : Int32)) (hR (sAI h s0 (v2).toNatClampNeg (0 : Int32)) 1210 v0) (v2).toNatClampNeg (-1 : Int32)) 1211 v0) = 20) ∧ ((inA (sAI (sAI h s0 (v2).toNatClampNeg (0 : Int32)) (hR (sAI h s0 (v2).toNatClampNeg (0 : Int32)) 1210 v0) (v2).toNatClampNeg (-1 : Int32)) (hR (sAI (sAI h s0 (v2).toNatClampNeg (0 : Int32)) (hR (sAI h s0 (v2).toNatClampNeg (0 : Int32)) 1210 v0) (v2).toNatClampNeg (-1 : Int32)) 1211 v0) v2 = true) ∧ ((hK (sAI (sAI (sAI h s0 (v2).toNatClampNeg (0 : Int32)) (hR (sAI h s0 (v2).toNatClampNeg (0 : Int32)) 1210 v0) (v2).toNatClampNeg (-1 : Int32)) (hR (sAI (sAI h s0 (v2).toNatClampNeg (0 : Int32)) (hR (sAI h s0 (v2).toNatClampNeg (0 : Int32)) 1210 v0) (v2).toNatClampNeg (-1 : Int32)) 1211 v0) (v2).toNatClampNeg (0 : Int32)) v0 = 12) ∧ (WP d mX12_begins 89 [some (.ref v0), some (.int v1), some (.int v2)] [.ref (hR (sAI (sAI (sAI h s0 (v2).toNatClampNeg (0 : Int32)) (hR (sAI h s0 (v2).toNatClampNeg (0 : Int32)) 1210 v0) (v2).toNatClampNeg (-1 : Int32)) (hR (sAI (sAI h s0 (v2).toNatClampNeg (0 : Int32)) (hR (sAI h s0 (v2).toNatClampNeg (0 : Int32)) 1210 v0) (v2).toNatClampNeg (-1 : Int32)) 1211 v0) (v2).toNatClampNeg (0 : Int32)) 1212 v0)] (sAI (sAI (sAI h s0 (v2).toNatClampNeg (0 : Int32)) (hR (sAI h s0 (v2).toNatClampNeg (0 : Int32)) 1210 v0) (v2).toNatClampNeg (-1 : Int32)) (hR (sAI (sAI h s0 (v2).toNatClampNeg (0 : Int32)) (hR (sAI h s0 (v2).toNatClampNeg (0 : Int32)) 1210 v0) (v2).toNatClampNeg (-1 : Int32)) 1211 v0) (v2).toNatClampNeg (0 : Int32)) Q)))))))))) : WP d mX12_begins 68 [some (.ref v0), some (.int v1), some (.int v2)] [.ref s0] h Q := by
  refine w_iload_n dX12_begins_68 rfl ?_
  refine w_iconst dX12_begins_69 i1_0 ?_
  obtain ⟨g1, k⟩ := k
  obtain ⟨g2, k⟩ := k
  refine w_iastore dX12_begins_70 g1 g2 ?_
  refine w_aload_n dX12_begins_71 rfl ?_
  obtain ⟨g3, k⟩ := k
  refine w_getR dX12_begins_72 f_12_36 t_12_10 g3 ?_
  refine w_iload_n dX12_begins_75 rfl ?_
  refine w_iconst dX12_begins_76 i1_m1 ?_
  obtain ⟨g4, k⟩ := k
  obtain ⟨g5, k⟩ := k
  refine w_iastore dX12_begins_77 g4 g5 ?_
  refine w_aload_n dX12_begins_78 rfl ?_
  obtain ⟨g6, k⟩ := k
  refine w_getR dX12_begins_79 f_12_39 t_12_11 g6 ?_
  refine w_iload_n dX12_begins_82 rfl ?_
  refine w_iconst dX12_begins_83 i1_0 ?_
  obtain ⟨g7, k⟩ := k
  obtain ⟨g8, k⟩ := k
  refine w_iastore dX12_begins_84 g7 g8 ?_
  refine w_aload_n dX12_begins_85 rfl ?_
  obtain ⟨g9, k⟩ := k
  refine w_getR dX12_begins_86 f_12_42 t_12_12 g9 ?_
  exact k
theorem bX12_begins_89 {d : Nat} {h : HP} {Q : Out → HP → Prop} {v0 : Nat} {v1 : Int32} {v2 : Int32} {s0 : Nat} (k : (hK h s0 = 20) ∧ ((inA h s0 v2 = true) ∧ ((hK (sAI h s0 (v2).toNatClampNeg (0 : Int32)) v0 = 12) ∧ ((hK (sAI h s0 (v2).toNatClampNeg (0 : Int32)) (hR (sAI h s0 (v2).toNatClampNeg (0 : Int32)) 1213 v0) = 20) ∧ ((inA (sAI h s0 (v2).toNatClampNeg (0 : Int32)) (hR (sAI h s0 (v2).toNatClampNeg (0 : Int32)) 1213 v0) v2 = true) ∧ ((hK (sAI (sAI h s0 (v2).toNatClampNeg (0 : Int32)) (hR (sAI h s0 (v2).toNatClampNeg (0 : Int32)) 1213 v0) (v2).toNatClampNeg (0 : Int32)) v0 = 12) ∧ ((hK (sAI (sAI h s0 (v2).toNatClampNeg (0 : Int32)) (hR (sAI h s0 (v2).toNatClampNeg (0 : Int32)) 1213 v0) (v2).toNatClampNeg (0 : Int32)) (hR (sAI (sAI h s0 (v2).toNatClampNeg (0 : Int32)) (hR (sAI h s0 (v2).toNatClampNeg (0 : Int32)) 1213 v0) (v2).toNatClampNeg (0 : Int32)) 1218 v0) = 20) ∧ ((inA (sAI (sAI h s0 (v2).toNatClampNeg (0 : Int32)) (hR (sAI h s0 (v2).toNatClampNeg (0 : Int32)) 1213 v0) (v2).toNatClampNeg (0 : Int32)) (hR (sAI (sAI h s0 (v2).toNatClampNeg (0 : Int32)) (hR (sAI h s0 (v2).toNatClampNeg (0 : Int32)) 1213 v0) (v2).toNatClampNeg (0 : Int32)) 1218 v0) v2 = true) ∧ ((hK (sAI (sAI (sAI h s0 (v2).toNatClampNeg (0 : Int32)) (hR (sAI h s0 (v2).toNatClampNeg (0 : Int32)) 1213 v0) (v2).toNatClampNeg (0 : Int32)) (hR (sAI (sAI h s0 (v2).toNatClampNeg (0 : Int32)) (hR (sAI h s0 (v2).toNatClampNeg (0 : Int32)) 1213 v0) (v2).toNatClampNeg (0 : Int32)) 1218 v0) (v2).toNatClampNeg (0 : Int32)) v0 = 12) ∧ (WP d mX12_begins 110 [some (.ref v0), some (.int v1), some (.int v2)] [.ref (hR (sAI (sAI (sAI h s0 (v2).toNatClampNeg (0 : Int32)) (hR (sAI h s0 (v2).toNatClampNeg (0 : Int32)) 1213 v0) (v2).toNatClampNeg (0 : Int32)) (hR (sAI (sAI h s0 (v2).toNatClampNeg (0 : Int32)) (hR (sAI h s0 (v2).toNatClampNeg (0 : Int32)) 1213 v0) (v2).toNatClampNeg (0 : Int32)) 1218 v0) (v2).toNatClampNeg (0 : Int32)) 1223 v0)] (sAI (sAI (sAI h s0 (v2).toNatClampNeg (0 : Int32)) (hR (sAI h s0 (v2).toNatClampNeg (0 : Int32)) 1213 v0) (v2).toNatClampNeg (0 : Int32)) (hR (sAI (sAI h s0 (v2).toNatClampNeg (0 : Int32)) (hR (sAI h s0 (v2).toNatClampNeg (0 : Int32)) 1213 v0) (v2).toNatClampNeg (0 : Int32)) 1218 v0) (v2).toNatClampNeg (0 : Int32)) Q)))))))))) : WP d mX12_begins 89 [some (.ref v0), some (.int v1), some (.int v2)] [.ref s0] h Q := by
  refine w_iload_n dX12_begins_89 rfl ?_
  refine w_iconst dX12_begins_90 i1_0 ?_
  obtain ⟨g1, k⟩ := k
  obtain ⟨g2, k⟩ := k
  refine w_iastore dX12_begins_91 g1 g2 ?_
  refine w_aload_n dX12_begins_92 rfl ?_
  obtain ⟨g3, k⟩ := k
  refine w_getR dX12_begins_93 f_12_45 t_12_13 g3 ?_
  refine w_iload_n dX12_begins_96 rfl ?_
  refine w_iconst dX12_begins_97 i1_0 ?_
  obtain ⟨g4, k⟩ := k
  obtain ⟨g5, k⟩ := k
  refine w_iastore dX12_begins_98 g4 g5 ?_
  refine w_aload_n dX12_begins_99 rfl ?_
  obtain ⟨g6, k⟩ := k
  refine w_getR dX12_begins_100 f_12_60 t_12_18 g6 ?_
  refine w_iload_n dX12_begins_103 rfl ?_
  refine w_iconst dX12_begins_104 i1_0 ?_
  obtain ⟨g7, k⟩ := k
  obtain ⟨g8, k⟩ := k
  refine w_iastore dX12_begins_105 g7 g8 ?_
  refine w_aload_n dX12_begins_106 rfl ?_
  obtain ⟨g9, k⟩ := k
  refine w_getR dX12_begins_107 f_12_75 t_12_23 g9 ?_
  exact k
theorem bX12_begins_110 {d : Nat} {h : HP} {Q : Out → HP → Prop} {v0 : Nat} {v1 : Int32} {v2 : Int32} {s0 : Nat} (k : (hK h s0 = 21) ∧ ((inA h s0 v2 = true) ∧ ((hK (sAI h s0 (v2).toNatClampNeg (0 : Int32)) v0 = 12) ∧ ((hK (sAI h s0 (v2).toNatClampNeg (0 : Int32)) (hR (sAI h s0 (v2).toNatClampNeg (0 : Int32)) 1225 v0) = 20) ∧ ((inA (sAI h s0 (v2).toNatClampNeg (0 : Int32)) (hR (sAI h s0 (v2).toNatClampNeg (0 : Int32)) 1225 v0) v2 = true) ∧ (WP d mX12_begins 38 [some (.ref v0), some (.int v1), some (.int (v2 + (1 : Int32)))] [] (sAI (sAI h s0 (v2).toNatClampNeg (0 : Int32)) (hR (sAI h s0 (v2).toNatClampNeg (0 : Int32)) 1225 v0) (v2).toNatClampNeg (-1 : Int32)) Q)))))) : WP d mX12_begins 110 [some (.ref v0), some (.int v1), some (.int v2)] [.ref s0] h Q := by
  refine w_iload_n dX12_begins_110 rfl ?_
  refine w_iconst dX12_begins_111 i1_0 ?_
  obtain ⟨g1, k⟩ := k
  obtain ⟨g2, k⟩ := k
  refine w_bastore dX12_begins_112 g1 g2 rfl ?_
  refine w_aload_n dX12_begins_113 rfl ?_
  obtain ⟨g3, k⟩ := k
  refine w_getR dX12_begins_114 f_12_81 t_12_25 g3 ?_
  refine w_iload_n dX12_begins_117 rfl ?_
  refine w_iconst dX12_begins_118 i1_m1 ?_
  obtain ⟨g4, k⟩ := k
  obtain ⟨g5, k⟩ := k
  refine w_iastore dX12_begins_119 g4 g5 ?_
  refine w_iinc (lo' := [some (.ref v0), some (.int v1), some (.int (v2 + (1 : Int32)))]) dX12_begins_120 rfl i1_1 rfl ?_
  refine w_goto (pc' := 38) dX12_begins_123 rfl rfl ?_
  exact k
theorem bX12_begins_128 {d : Nat} {h : HP} {Q : Out → HP → Prop} {v0 : Nat} {v1 : Int32} {v2 : Int32} (k : (((25 : Int32) ≤ v2) → WP d mX12_begins 149 [some (.ref v0), some (.int v1), some (.int (0 : Int32))] [] h Q) ∧ ((¬ ((25 : Int32) ≤ v2)) → (hK h v0 = 12) ∧ ((hK h (hR h 1206 v0) = 21) ∧ ((inA h (hR h 1206 v0) v2 = true) ∧ (WP d mX12_begins 128 [some (.ref v0), some (.int v1), some (.int (v2 + (1 : Int32)))] [] (sAI h (hR h 1206 v0) (v2).toNatClampNeg (0 : Int32)) Q))))) : WP d mX12_begins 128 [some (.ref v0), some (.int v1), some (.int v2)] [] h Q := by
  refine w_iload_n dX12_begins_128 rfl ?_
  refine w_bipush dX12_begins_129 i2_25 ?_
  refine w_ic_ge (pc' := 147) dX12_begins_131 rfl rfl ⟨fun c => ?_, fun c => ?_⟩
  · replace k := k.1 c
    refine w_iconst dX12_begins_147 i1_0 ?_
    refine w_istore_n (lo' := [some (.ref v0), some (.int v1), some (.int (0 : Int32))]) dX12_begins_148 (ltQ rfl) rfl ?_
    exact k
  · replace k := k.2 c
    refine w_aload_n dX12_begins_134 rfl ?_
    obtain ⟨g1, k⟩ := k
    refine w_getR dX12_begins_135 f_12_22 t_12_6 g1 ?_
    refine w_iload_n dX12_begins_138 rfl ?_
    refine w_iconst dX12_begins_139 i1_0 ?_
    obtain ⟨g2, k⟩ := k
    obtain ⟨g3, k⟩ := k
    refine w_bastore dX12_begins_140 g2 g3 rfl ?_
    refine w_iinc (lo' := [some (.ref v0), some (.int v1), some (.int (v2 + (1 : Int32)))]) dX12_begins_141 rfl i1_1 rfl ?_
    refine w_goto (pc' := 128) dX12_begins_144 rfl rfl ?_
    exact k
theorem bX12_begins_149 {d : Nat} {h : HP} {Q : Out → HP → Prop} {v0 : Nat} {v1 : Int32} {v2 : Int32} (k : (((20 : Int32) ≤ v2) → Q (.inl none) h) ∧ ((¬ ((20 : Int32) ≤ v2)) → (hK h v0 = 12) ∧ ((hK h (hR h 1227 v0) = 20) ∧ ((inA h (hR h 1227 v0) v2 = true) ∧ ((hK (sAI h (hR h 1227 v0) (v2).toNatClampNeg (-1 : Int32)) v0 = 12) ∧ ((hK (sAI h (hR h 1227 v0) (v2).toNatClampNeg (-1 : Int32)) (hR (sAI h (hR h 1227 v0) (v2).toNatClampNeg (-1 : Int32)) 1228 v0) = 20) ∧ ((inA (sAI h (hR h 1227 v0) (v2).toNatClampNeg (-1 : Int32)) (hR (sAI h (hR h 1227 v0) (v2).toNatClampNeg (-1 : Int32)) 1228 v0) v2 = true) ∧ ((hK (sAI (sAI h (hR h 1227 v0) (v2).toNatClampNeg (-1 : Int32)) (hR (sAI h (hR h 1227 v0) (v2).toNatClampNeg (-1 : Int32)) 1228 v0) (v2).toNatClampNeg (-1 : Int32)) v0 = 12) ∧ ((hK (sAI (sAI h (hR h 1227 v0) (v2).toNatClampNeg (-1 : Int32)) (hR (sAI h (hR h 1227 v0) (v2).toNatClampNeg (-1 : Int32)) 1228 v0) (v2).toNatClampNeg (-1 : Int32)) (hR (sAI (sAI h (hR h 1227 v0) (v2).toNatClampNeg (-1 : Int32)) (hR (sAI h (hR h 1227 v0) (v2).toNatClampNeg (-1 : Int32)) 1228 v0) (v2).toNatClampNeg (-1 : Int32)) 1229 v0) = 20) ∧ ((inA (sAI (sAI h (hR h 1227 v0) (v2).toNatClampNeg (-1 : Int32)) (hR (sAI h (hR h 1227 v0) (v2).toNatClampNeg (-1 : Int32)) 1228 v0) (v2).toNatClampNeg (-1 : Int32)) (hR (sAI (sAI h (hR h 1227 v0) (v2).toNatClampNeg (-1 : Int32)) (hR (sAI h (hR h 1227 v0) (v2).toNatClampNeg (-1 : Int32)) 1228 v0) (v2).toNatClampNeg (-1 : Int32)) 1229 v0) v2 = true) ∧ ((hK (sAI (sAI (sAI h (hR h 1227 v0) (v2).toNatClampNeg (-1 : Int32)) (hR (sAI h (hR h 1227 v0) (v2).toNatClampNeg (-1 : Int32)) 1228 v0) (v2).toNatClampNeg (-1 : Int32)) (hR (sAI (sAI h (hR h 1227 v0) (v2).toNatClampNeg (-1 : Int32)) (hR (sAI h (hR h 1227 v0) (v2).toNatClampNeg (-1 : Int32)) 1228 v0) (v2).toNatClampNeg (-1 : Int32)) 1229 v0) (v2).toNatClampNeg (-1 : Int32)) v0 = 12) ∧ (WP d mX12_begins 180 [some (.ref v0), some (.int v1), some (.int v2)] [.ref (hR (sAI (sAI (sAI h (hR h 1227 v0) (v2).toNatClampNeg (-1 : Int32)) (hR (sAI h (hR h 1227 v0) (v2).toNatClampNeg (-1 : Int32)) 1228 v0) (v2).toNatClampNeg (-1 : Int32)) (hR (sAI (sAI h (hR h 1227 v0) (v2).toNatClampNeg (-1 : Int32)) (hR (sAI h (hR h 1227 v0) (v2).toNatClampNeg (-1 : Int32)) 1228 v0) (v2).toNatClampNeg (-1 : Int32)) 1229 v0) (v2).toNatClampNeg (-1 : Int32)) 1230 v0)] (sAI (sAI (sAI h (hR h 1227 v0) (v2).toNatClampNeg (-1 : Int32)) (hR (sAI h (hR h 1227 v0) (v2).toNatClampNeg (-1 : Int32)) 1228 v0) (v2).toNatClampNeg (-1 : Int32)) (hR (sAI (sAI h (hR h 1227 v0) (v2).toNatClampNeg (-1 : Int32)) (hR (sAI h (hR h 1227 v0) (v2).toNatClampNeg (-1 : Int32)) 1228 v0) (v2).toNatClampNeg (-1 : Int32)) 1229 v0) (v2).toNatClampNeg (-1 : Int32)) Q)))))))))))) : WP d mX12_begins 149 [some (.ref v0), some (.int v1), some (.int v2)] [] h Q := by
  refine w_iload_n dX12_begins_149 rfl ?_
  refine w_bipush dX12_begins_150 i2_20 ?_
  refine w_ic_ge (pc' := 196) dX12_begins_152 rfl rfl ⟨fun c => ?_, fun c => ?_⟩
  · replace k := k.1 c
    exact w_return dX12_begins_196 rfl k
  · replace k := k.2 c
    refine w_aload_n dX12_begins_155 rfl ?_
    obtain ⟨g1, k⟩ := k
    refine w_getR dX12_begins_156 f_12_87 t_12_27 g1 ?_
    refine w_iload_n dX12_begins_159 rfl ?_
    refine w_iconst dX12_begins_160 i1_m1 ?_
    obtain ⟨g2, k⟩ := k
    obtain ⟨g3, k⟩ := k
    refine w_iastore dX12_begins_161 g2 g3 ?_
    refine w_aload_n dX12_begins_162 rfl ?_
    obtain ⟨g4, k⟩ := k
    refine w_getR dX12_begins_163 f_12_90 t_12_28 g4 ?_
    refine w_iload_n dX12_begins_166 rfl ?_
    refine w_iconst dX12_begins_167 i1_m1 ?_
    obtain ⟨g5, k⟩ := k
    obtain ⟨g6, k⟩ := k
    refine w_iastore dX12_begins_168 g5 g6 ?_
    refine w_aload_n dX12_begins_169 rfl ?_
    obtain ⟨g7, k⟩ := k
    refine w_getR dX12_begins_170 f_12_93 t_12_29 g7 ?_
    refine w_iload_n dX12_begins_173 rfl ?_
    refine w_iconst dX12_begins_174 i1_m1 ?_
    obtain ⟨g8, k⟩ := k
    obtain ⟨g9, k⟩ := k
    refine w_iastore dX12_begins_175 g8 g9 ?_
    refine w_aload_n dX12_begins_176 rfl ?_
    obtain ⟨g10, k⟩ := k
    refine w_getR dX12_begins_177 f_12_96 t_12_30 g10 ?_
    exact k
theorem bX12_begins_180 {d : Nat} {h : HP} {Q : Out → HP → Prop} {v0 : Nat} {v1 : Int32} {v2 : Int32} {s0 : Nat} (k : (hK h s0 = 20) ∧ ((inA h s0 v2 = true) ∧ ((hK (sAI h s0 (v2).toNatClampNeg (-1 : Int32)) v0 = 12) ∧ ((hK (sAI h s0 (v2).toNatClampNeg (-1 : Int32)) (hR (sAI h s0 (v2).toNatClampNeg (-1 : Int32)) 1231 v0) = 20) ∧ ((inA (sAI h s0 (v2).toNatClampNeg (-1 : Int32)) (hR (sAI h s0 (v2).toNatClampNeg (-1 : Int32)) 1231 v0) v2 = true) ∧ (WP d mX12_begins 149 [some (.ref v0), some (.int v1), some (.int (v2 + (1 : Int32)))] [] (sAI (sAI h s0 (v2).toNatClampNeg (-1 : Int32)) (hR (sAI h s0 (v2).toNatClampNeg (-1 : Int32)) 1231 v0) (v2).toNatClampNeg (-1 : Int32)) Q)))))) : WP d mX12_begins 180 [some (.ref v0), some (.int v1), some (.int v2)] [.ref s0] h Q := by
  refine w_iload_n dX12_begins_180 rfl ?_
  refine w_iconst dX12_begins_181 i1_m1 ?_
  obtain ⟨g1, k⟩ := k
  obtain ⟨g2, k⟩ := k
  refine w_iastore dX12_begins_182 g1 g2 ?_
  refine w_aload_n dX12_begins_183 rfl ?_
  obtain ⟨g3, k⟩ := k
  refine w_getR dX12_begins_184 f_12_99 t_12_31 g3 ?_
  refine w_iload_n dX12_begins_187 rfl ?_
  refine w_iconst dX12_begins_188 i1_m1 ?_
  obtain ⟨g4, k⟩ := k
  obtain ⟨g5, k⟩ := k
  refine w_iastore dX12_begins_189 g4 g5 ?_
  refine w_iinc (lo' := [some (.ref v0), some (.int v1), some (.int (v2 + (1 : Int32)))]) dX12_begins_190 rfl i1_1 rfl ?_
  refine w_goto (pc' := 149) dX12_begins_193 rfl rfl ?_
  exact k
theorem bX12_begin_0 {d : Nat} {h : HP} {Q : Out → HP → Prop} {v0 : Nat} {v1 : Int32} {u2 : Option Value} (k : ((v1 = (3 : Int32)) → (1 < v0) ∧ ((hK h v0 = 12) ∧ (WP d mX12_goes 0 [some (.ref v0), some (.int (1 : Int32)), some (.int (1 : Int32)), some (.int (1 : Int32))] [] h (KK d mX12_begin mX12_goes 18 [some (.ref v0), some (.int v1), u2] [] Q)))) ∧ ((¬ (v1 = (3 : Int32))) → ((¬ v1 = (5 : Int32)) → (1 < v0) ∧ ((hK h v0 = 12) ∧ (WP d mX12_goes 0 [some (.ref v0), some (.int (0 : Int32)), some (.int (1 : Int32)), some (.int (1 : Int32))] [] h (KK d mX12_begin mX12_goes 18 [some (.ref v0), some (.int v1), u2] [] Q)))) ∧ ((¬ (¬ v1 = (5 : Int32))) → (1 < v0) ∧ ((hK h v0 = 12) ∧ (WP d mX12_goes 0 [some (.ref v0), some (.int (1 : Int32)), some (.int (1 : Int32)), some (.int (1 : Int32))] [] h (KK d mX12_begin mX12_goes 18 [some (.ref v0), some (.int v1), u2] [] Q)))))) : WP (d + 1) mX12_begin 0 [some (.ref v0), some (.int v1), u2] [] h Q := by
  refine w_aload_n dX12_begin_0 rfl ?_
  refine w_iload_n dX12_begin_1 rfl ?_
  refine w_iconst dX12_begin_2 i1_3 ?_
  refine w_ic_eq (pc' := 11) dX12_begin_3 rfl rfl ⟨fun c => ?_, fun c => ?_⟩
  · replace k := k.1 c
    refine w_iconst dX12_begin_11 i1_1 ?_
    refine w_goto (pc' := 16) dX12_begin_12 rfl rfl ?_
    refine w_iconst dX12_begin_16 i1_1 ?_
    refine w_iconst dX12_begin_17 i1_1 ?_
    obtain ⟨g1, k⟩ := k
    obtain ⟨g2, k⟩ := k
    exact w_virt (as1 := [.int (1 : Int32), .int (1 : Int32), .int (1 : Int32), .ref v0]) (as2 := [.ref v0, .int (1 : Int32), .int (1 : Int32), .int (1 : Int32)]) (rest := []) (lo2 := [some (.ref v0), some (.int (1 : Int32)), some (.int (1 : Int32)), some (.int (1 : Int32))]) dX12_begin_18 c_12_173 rfl rfl rfl (Nat.le_of_ble_eq_true rfl) (Nat.le_of_ble_eq_true rfl) rfl (Nat.le_of_ble_eq_true rfl) rfl rfl g1 g2 k
  · replace k := k.2 c
    refine w_iload_n dX12_begin_6 rfl ?_
    refine w_iconst dX12_begin_7 i1_5 ?_
    refine w_ic_ne (pc' := 15) dX12_begin_8 rfl rfl ⟨fun c => ?_, fun c => ?_⟩
    · replace k := k.1 c
      refine w_iconst dX12_begin_15 i1_0 ?_
      refine w_iconst dX12_begin_16 i1_1 ?_
      refine w_iconst dX12_begin_17 i1_1 ?_
      obtain ⟨g3, k⟩ := k
      obtain ⟨g4, k⟩ := k
      exact w_virt (as1 := [.int (1 : Int32), .int (1 : Int32), .int (0 : Int32), .ref v0]) (as2 := [.ref v0, .int (0 : Int32), .int (1 : Int32), .int (1 : Int32)]) (rest := []) (lo2 := [some (.ref v0), some (.int (0 : Int32)), some (.int (1 : Int32)), some (.int (1 : Int32))]) dX12_begin_18 c_12_173 rfl rfl rfl (Nat.le_of_ble_eq_true rfl) (Nat.le_of_ble_eq_true rfl) rfl (Nat.le_of_ble_eq_true rfl) rfl rfl g3 g4 k
    · replace k := k.2 c
      refine w_iconst dX12_begin_11 i1_1 ?_
      refine w_goto (pc' := 16) dX12_begin_12 rfl rfl ?_
      refine w_iconst dX12_begin_16 i1_1 ?_
      refine w_iconst dX12_begin_17 i1_1 ?_
      obtain ⟨g5, k⟩ := k
      obtain ⟨g6, k⟩ := k
      exact w_virt (as1 := [.int (1 : Int32), .int (1 : Int32), .int (1 : Int32), .ref v0]) (as2 := [.ref v0, .int (1 : Int32), .int (1 : Int32), .int (1 : Int32)]) (rest := []) (lo2 := [some (.ref v0), some (.int (1 : Int32)), some (.int (1 : Int32)), some (.int (1 : Int32))]) dX12_begin_18 c_12_173 rfl rfl rfl (Nat.le_of_ble_eq_true rfl) (Nat.le_of_ble_eq_true rfl) rfl (Nat.le_of_ble_eq_true rfl) rfl rfl g5 g6 k
theorem bX12_begin_21 {d : Nat} {h : HP} {Q : Out → HP → Prop} {v0 : Nat} {v1 : Int32} {u2 : Option Value} {s0 : Int32} (k : ((¬ s0 = 0) → (hK h v0 = 12) ∧ ((1 < v0) ∧ (WP d mX12_begins 0 [some (.ref v0), some (.int v1), none] [] h (KK d mX12_begin mX12_begins 33 [some (.ref v0), some (.int v1), some (.int (hI h 1200 v0))] [] Q)))) ∧ ((¬ (¬ s0 = 0)) → Q (.inl (some (.int (0 : Int32)))) h)) : WP (d + 1) mX12_begin 21 [some (.ref v0), some (.int v1), u2] [.int s0] h Q := by
  refine w_if_ne (pc' := 26) dX12_begin_21 rfl rfl ⟨fun c => ?_, fun c => ?_⟩
  · replace k := k.1 c
    refine w_aload_n dX12_begin_26 rfl ?_
    obtain ⟨g1, k⟩ := k
    refine w_getI dX12_begin_27 f_12_7 t_12_0 g1 ?_
    refine w_istore_n (lo' := [some (.ref v0), some (.int v1), some (.int (hI h 1200 v0))]) dX12_begin_30 (ltQ rfl) rfl ?_
    refine w_aload_n dX12_begin_31 rfl ?_
    refine w_iload_n dX12_begin_32 rfl ?_
    obtain ⟨g2, k⟩ := k
    exact w_virt (as1 := [.int v1, .ref v0]) (as2 := [.ref v0, .int v1]) (rest := []) (lo2 := [some (.ref v0), some (.int v1), none]) dX12_begin_33 c_12_147 rfl rfl rfl (Nat.le_of_ble_eq_true rfl) (Nat.le_of_ble_eq_true rfl) rfl (Nat.le_of_ble_eq_true rfl) rfl rfl g2 g1 k
  · replace k := k.2 c
    refine w_iconst dX12_begin_24 i1_0 ?_
    exact w_ireturn dX12_begin_25 rfl k
theorem bX12_begin_36 {d : Nat} {h : HP} {Q : Out → HP → Prop} {v0 : Nat} {v1 : Int32} {v2 : Int32} (k : Q (.inl (some (.int v2))) h) : WP d mX12_begin 36 [some (.ref v0), some (.int v1), some (.int v2)] [] h Q := by
  refine w_iload_n dX12_begin_36 rfl ?_
  exact w_ireturn dX12_begin_37 rfl k
theorem bX12_ends_0 {d : Nat} {h : HP} {Q : Out → HP → Prop} {v0 : Nat} {u1 : Option Value} (k : WP d mX12_ends 2 [some (.ref v0), some (.int (0 : Int32))] [] h Q) : WP d mX12_ends 0 [some (.ref v0), u1] [] h Q := by
  refine w_iconst dX12_ends_0 i1_0 ?_
  refine w_istore_n (lo' := [some (.ref v0), some (.int (0 : Int32))]) dX12_ends_1 (ltQ rfl) rfl ?_
  exact k
theorem bX12_ends_2 {d : Nat} {h : HP} {Q : Out → HP → Prop} {v0 : Nat} {v1 : Int32} (k : (hK h v0 = 12) ∧ ((((hI h 1247 v0) ≤ v1) → Q (.inl none) h) ∧ ((¬ ((hI h 1247 v0) ≤ v1)) → (hK h (hR h 1241 v0) = 21) ∧ ((inA h (hR h 1241 v0) v1 = true) ∧ ((((hAI h (hR h 1241 v0) (v1).toNatClampNeg) = 0) → WP (d + 1) mX12_ends 2 [some (.ref v0), some (.int (v1 + (1 : Int32)))] [] h Q) ∧ ((¬ ((hAI h (hR h 1241 v0) (v1).toNatClampNeg) = 0)) → (hK h (hR h 1246 v0) = 20) ∧ ((inA h (hR h 1246 v0) v1 = true) ∧ (((¬ (hAI h (hR h 1246 v0) (v1).toNatClampNeg) = (-1 : Int32)) → WP (d + 1) mX12_ends 2 [some (.ref v0), some (.int (v1 + (1 : Int32)))] [] h Q) ∧ ((¬ (¬ (hAI h (hR h 1246 v0) (v1).toNatClampNeg) = (-1 : Int32))) → (1 < v0) ∧ (WP d mX12_isAgreedAt 0 [some (.ref v0), some (.int v1), none, none] [] h (KK d mX12_ends mX12_isAgreedAt 31 [some (.ref v0), some (.int v1)] [] Q))))))))))) : WP (d + 1) mX12_ends 2 [some (.ref v0), some (.int v1)] [] h Q := by
  refine w_iload_n dX12_ends_2 rfl ?_
  refine w_aload_n dX12_ends_3 rfl ?_
  obtain ⟨g1, k⟩ := k
  refine w_getI dX12_ends_4 f_12_170 t_12_47 g1 ?_
  refine w_ic_ge (pc' := 53) dX12_ends_7 rfl rfl ⟨fun c => ?_, fun c => ?_⟩
  · replace k := k.1 c
    exact w_return dX12_ends_53 rfl k
  · replace k := k.2 c
    refine w_aload_n dX12_ends_10 rfl ?_
    refine w_getR dX12_ends_11 f_12_123 t_12_41 g1 ?_
    refine w_iload_n dX12_ends_14 rfl ?_
    obtain ⟨g2, k⟩ := k
    obtain ⟨g3, k⟩ := k
    refine w_baload dX12_ends_15 g2 g3 ?_
    refine w_if_eq (pc' := 47) dX12_ends_16 rfl rfl ⟨fun c => ?_, fun c => ?_⟩
    · replace k := k.1 c
      refine w_iinc (lo' := [some (.ref v0), some (.int (v1 + (1 : Int32)))]) dX12_ends_47 rfl i1_1 rfl ?_
      refine w_goto (pc' := 2) dX12_ends_50 rfl rfl ?_
      exact k
    · replace k := k.2 c
      refine w_aload_n dX12_ends_19 rfl ?_
      refine w_getR dX12_ends_20 f_12_138 t_12_46 g1 ?_
      refine w_iload_n dX12_ends_23 rfl ?_
      obtain ⟨g4, k⟩ := k
      obtain ⟨g5, k⟩ := k
      refine w_iaload dX12_ends_24 g4 g5 ?_
      refine w_iconst dX12_ends_25 i1_m1 ?_
      refine w_ic_ne (pc' := 47) dX12_ends_26 rfl rfl ⟨fun c => ?_, fun c => ?_⟩
      · replace k := k.1 c
        refine w_iinc (lo' := [some (.ref v0), some (.int (v1 + (1 : Int32)))]) dX12_ends_47 rfl i1_1 rfl ?_
        refine w_goto (pc' := 2) dX12_ends_50 rfl rfl ?_
        exact k
      · replace k := k.2 c
        refine w_aload_n dX12_ends_29 rfl ?_
        refine w_iload_n dX12_ends_30 rfl ?_
        obtain ⟨g6, k⟩ := k
        exact w_virt (as1 := [.int v1, .ref v0]) (as2 := [.ref v0, .int v1]) (rest := []) (lo2 := [some (.ref v0), some (.int v1), none, none]) dX12_ends_31 c_12_177 rfl rfl rfl (Nat.le_of_ble_eq_true rfl) (Nat.le_of_ble_eq_true rfl) rfl (Nat.le_of_ble_eq_true rfl) rfl rfl g6 g1 k
theorem bX12_ends_34 {d : Nat} {h : HP} {Q : Out → HP → Prop} {v0 : Nat} {v1 : Int32} {s0 : Int32} (k : ((s0 = 0) → WP d mX12_ends 2 [some (.ref v0), some (.int (v1 + (1 : Int32)))] [] h Q) ∧ ((¬ (s0 = 0)) → (hK h v0 = 12) ∧ ((hK h (hR h 1246 v0) = 20) ∧ ((inA h (hR h 1246 v0) v1 = true) ∧ (WP d mX12_ends 2 [some (.ref v0), some (.int (v1 + (1 : Int32)))] [] (sAI h (hR h 1246 v0) (v1).toNatClampNeg (hI h 1204 v0)) Q))))) : WP d mX12_ends 34 [some (.ref v0), some (.int v1)] [.int s0] h Q := by
  refine w_if_eq (pc' := 47) dX12_ends_34 rfl rfl ⟨fun c => ?_, fun c => ?_⟩
  · replace k := k.1 c
    refine w_iinc (lo' := [some (.ref v0), some (.int (v1 + (1 : Int32)))]) dX12_ends_47 rfl i1_1 rfl ?_
    refine w_goto (pc' := 2) dX12_ends_50 rfl rfl ?_
    exact k
  · replace k := k.2 c
    refine w_aload_n dX12_ends_37 rfl ?_
    obtain ⟨g1, k⟩ := k
    refine w_getR dX12_ends_38 f_12_138 t_12_46 g1 ?_
    refine w_iload_n dX12_ends_41 rfl ?_
    refine w_aload_n dX12_ends_42 rfl ?_
    refine w_getI dX12_ends_43 f_12_164 t_12_4 g1 ?_
    obtain ⟨g2, k⟩ := k
    obtain ⟨g3, k⟩ := k
    refine w_iastore dX12_ends_46 g2 g3 ?_
    refine w_iinc (lo' := [some (.ref v0), some (.int (v1 + (1 : Int32)))]) dX12_ends_47 rfl i1_1 rfl ?_
    refine w_goto (pc' := 2) dX12_ends_50 rfl rfl ?_
    exact k
theorem bX12_isAgreedAt_0 {d : Nat} {h : HP} {Q : Out → HP → Prop} {v0 : Nat} {v1 : Int32} {u2 : Option Value} {u3 : Option Value} (k : WP d mX12_isAgreedAt 2 [some (.ref v0), some (.int v1), some (.int (0 : Int32)), u3] [] h Q) : WP d mX12_isAgreedAt 0 [some (.ref v0), some (.int v1), u2, u3] [] h Q := by
  refine w_iconst dX12_isAgreedAt_0 i1_0 ?_
  refine w_istore_n (lo' := [some (.ref v0), some (.int v1), some (.int (0 : Int32)), u3]) dX12_isAgreedAt_1 (ltQ rfl) rfl ?_
  exact k
theorem bX12_isAgreedAt_2 {d : Nat} {h : HP} {Q : Out → HP → Prop} {v0 : Nat} {v1 : Int32} {v2 : Int32} {u3 : Option Value} (k : (hK h v0 = 12) ∧ ((((hI h 1200 v0) ≤ v2) → Q (.inl (some (.int (0 : Int32)))) h) ∧ ((¬ ((hI h 1200 v0) ≤ v2)) → WP d mX12_isAgreedAt 15 [some (.ref v0), some (.int v1), some (.int v2), some (.int ((30 : Int32) * v2))] [] h Q))) : WP d mX12_isAgreedAt 2 [some (.ref v0), some (.int v1), some (.int v2), u3] [] h Q := by
  refine w_iload_n dX12_isAgreedAt_2 rfl ?_
  refine w_aload_n dX12_isAgreedAt_3 rfl ?_
  obtain ⟨g1, k⟩ := k
  refine w_getI dX12_isAgreedAt_4 f_12_7 t_12_0 g1 ?_
  refine w_ic_ge (pc' := 84) dX12_isAgreedAt_7 rfl rfl ⟨fun c => ?_, fun c => ?_⟩
  · replace k := k.1 c
    refine w_iconst dX12_isAgreedAt_84 i1_0 ?_
    exact w_ireturn dX12_isAgreedAt_85 rfl k
  · replace k := k.2 c
    refine w_bipush dX12_isAgreedAt_10 i2_30 ?_
    refine w_iload_n dX12_isAgreedAt_12 rfl ?_
    refine w_imul dX12_isAgreedAt_13 ?_
    refine w_istore_n (lo' := [some (.ref v0), some (.int v1), some (.int v2), some (.int ((30 : Int32) * v2))]) dX12_isAgreedAt_14 (ltQ rfl) rfl ?_
    exact k
theorem bX12_isAgreedAt_15 {d : Nat} {h : HP} {Q : Out → HP → Prop} {v0 : Nat} {v1 : Int32} {v2 : Int32} {v3 : Int32} (k : (hK h v0 = 12) ∧ ((hK h (hR h 1213 v0) = 20) ∧ ((inA h (hR h 1213 v0) v2 = true) ∧ ((((((30 : Int32) * v2) + (hAI h (hR h 1213 v0) (v2).toNatClampNeg)) ≤ v3) → WP d mX12_isAgreedAt 2 [some (.ref v0), some (.int v1), some (.int (v2 + (1 : Int32))), some (.int v3)] [] h Q) ∧ ((¬ ((((30 : Int32) * v2) + (hAI h (hR h 1213 v0) (v2).toNatClampNeg)) ≤ v3)) → (hK h (hR h 1211 v0) = 20) ∧ ((inA h (hR h 1211 v0) v2 = true) ∧ (((¬ (hAI h (hR h 1211 v0) (v2).toNatClampNeg) = (2 : Int32)) → WP d mX12_isAgreedAt 2 [some (.ref v0), some (.int v1), some (.int (v2 + (1 : Int32))), some (.int v3)] [] h Q) ∧ ((¬ (¬ (hAI h (hR h 1211 v0) (v2).toNatClampNeg) = (2 : Int32))) → (hK h (hR h 1215 v0) = 20) ∧ ((inA h (hR h 1215 v0) v3 = true) ∧ ((hK h (hR h 1242 v0) = 20) ∧ ((inA h (hR h 1242 v0) v1 = true) ∧ (((¬ (hAI h (hR h 1215 v0) (v3).toNatClampNeg) = (hAI h (hR h 1242 v0) (v1).toNatClampNeg)) → WP d mX12_isAgreedAt 15 [some (.ref v0), some (.int v1), some (.int v2), some (.int (v3 + (1 : Int32)))] [] h Q) ∧ ((¬ (¬ (hAI h (hR h 1215 v0) (v3).toNatClampNeg) = (hAI h (hR h 1242 v0) (v1).toNatClampNeg))) → (hK h (hR h 1216 v0) = 20) ∧ ((inA h (hR h 1216 v0) v3 = true) ∧ ((hK h (hR h 1243 v0) = 20) ∧ ((inA h (hR h 1243 v0) v1 = true) ∧ (((¬ (hAI h (hR h 1216 v0) (v3).toNatClampNeg) = (hAI h (hR h 1243 v0) (v1).toNatClampNeg)) → WP d mX12_isAgreedAt 15 [some (.ref v0), some (.int v1), some (.int v2), some (.int (v3 + (1 : Int32)))] [] h Q) ∧ ((¬ (¬ (hAI h (hR h 1216 v0) (v3).toNatClampNeg) = (hAI h (hR h 1243 v0) (v1).toNatClampNeg))) → Q (.inl (some (.int (1 : Int32)))) h)))))))))))))))))) : WP d mX12_isAgreedAt 15 [some (.ref v0), some (.int v1), some (.int v2), some (.int v3)] [] h Q := by
  refine w_iload_n dX12_isAgreedAt_15 rfl ?_
  refine w_bipush dX12_isAgreedAt_16 i2_30 ?_
  refine w_iload_n dX12_isAgreedAt_18 rfl ?_
  refine w_imul dX12_isAgreedAt_19 ?_
  refine w_aload_n dX12_isAgreedAt_20 rfl ?_
  obtain ⟨g1, k⟩ := k
  refine w_getR dX12_isAgreedAt_21 f_12_45 t_12_13 g1 ?_
  refine w_iload_n dX12_isAgreedAt_24 rfl ?_
  obtain ⟨g2, k⟩ := k
  obtain ⟨g3, k⟩ := k
  refine w_iaload dX12_isAgreedAt_25 g2 g3 ?_
  refine w_iadd dX12_isAgreedAt_26 ?_
  refine w_ic_ge (pc' := 78) dX12_isAgreedAt_27 rfl rfl ⟨fun c => ?_, fun c => ?_⟩
  · replace k := k.1 c
    refine w_iinc (lo' := [some (.ref v0), some (.int v1), some (.int (v2 + (1 : Int32))), some (.int v3)]) dX12_isAgreedAt_78 rfl i1_1 rfl ?_
    refine w_goto (pc' := 2) dX12_isAgreedAt_81 rfl rfl ?_
    exact k
  · replace k := k.2 c
    refine w_aload_n dX12_isAgreedAt_30 rfl ?_
    refine w_getR dX12_isAgreedAt_31 f_12_39 t_12_11 g1 ?_
    refine w_iload_n dX12_isAgreedAt_34 rfl ?_
    obtain ⟨g4, k⟩ := k
    obtain ⟨g5, k⟩ := k
    refine w_iaload dX12_isAgreedAt_35 g4 g5 ?_
    refine w_iconst dX12_isAgreedAt_36 i1_2 ?_
    refine w_ic_ne (pc' := 78) dX12_isAgreedAt_37 rfl rfl ⟨fun c => ?_, fun c => ?_⟩
    · replace k := k.1 c
      refine w_iinc (lo' := [some (.ref v0), some (.int v1), some (.int (v2 + (1 : Int32))), some (.int v3)]) dX12_isAgreedAt_78 rfl i1_1 rfl ?_
      refine w_goto (pc' := 2) dX12_isAgreedAt_81 rfl rfl ?_
      exact k
    · replace k := k.2 c
      refine w_aload_n dX12_isAgreedAt_40 rfl ?_
      refine w_getR dX12_isAgreedAt_41 f_12_51 t_12_15 g1 ?_
      refine w_iload_n dX12_isAgreedAt_44 rfl ?_
      obtain ⟨g6, k⟩ := k
      obtain ⟨g7, k⟩ := k
      refine w_iaload dX12_isAgreedAt_45 g6 g7 ?_
      refine w_aload_n dX12_isAgreedAt_46 rfl ?_
      refine w_getR dX12_isAgreedAt_47 f_12_126 t_12_42 g1 ?_
      refine w_iload_n dX12_isAgreedAt_50 rfl ?_
      obtain ⟨g8, k⟩ := k
      obtain ⟨g9, k⟩ := k
      refine w_iaload dX12_isAgreedAt_51 g8 g9 ?_
      refine w_ic_ne (pc' := 72) dX12_isAgreedAt_52 rfl rfl ⟨fun c => ?_, fun c => ?_⟩
      · replace k := k.1 c
        refine w_iinc (lo' := [some (.ref v0), some (.int v1), some (.int v2), some (.int (v3 + (1 : Int32)))]) dX12_isAgreedAt_72 rfl i1_1 rfl ?_
        refine w_goto (pc' := 15) dX12_isAgreedAt_75 rfl rfl ?_
        exact k
      · replace k := k.2 c
        refine w_aload_n dX12_isAgreedAt_55 rfl ?_
        refine w_getR dX12_isAgreedAt_56 f_12_54 t_12_16 g1 ?_
        refine w_iload_n dX12_isAgreedAt_59 rfl ?_
        obtain ⟨g10, k⟩ := k
        obtain ⟨g11, k⟩ := k
        refine w_iaload dX12_isAgreedAt_60 g10 g11 ?_
        refine w_aload_n dX12_isAgreedAt_61 rfl ?_
        refine w_getR dX12_isAgreedAt_62 f_12_129 t_12_43 g1 ?_
        refine w_iload_n dX12_isAgreedAt_65 rfl ?_
        obtain ⟨g12, k⟩ := k
        obtain ⟨g13, k⟩ := k
        refine w_iaload dX12_isAgreedAt_66 g12 g13 ?_
        refine w_ic_ne (pc' := 72) dX12_isAgreedAt_67 rfl rfl ⟨fun c => ?_, fun c => ?_⟩
        · replace k := k.1 c
          refine w_iinc (lo' := [some (.ref v0), some (.int v1), some (.int v2), some (.int (v3 + (1 : Int32)))]) dX12_isAgreedAt_72 rfl i1_1 rfl ?_
          refine w_goto (pc' := 15) dX12_isAgreedAt_75 rfl rfl ?_
          exact k
        · replace k := k.2 c
          refine w_iconst dX12_isAgreedAt_70 i1_1 ?_
          exact w_ireturn dX12_isAgreedAt_71 rfl k
theorem bX12_follows_0 {d : Nat} {h : HP} {Q : Out → HP → Prop} {v0 : Nat} {v1 : Int32} (k : (hK h v0 = 12) ∧ ((hK h (hR h 1211 v0) = 20) ∧ ((inA h (hR h 1211 v0) v1 = true) ∧ ((hK (sAI h (hR h 1211 v0) (v1).toNatClampNeg (0 : Int32)) v0 = 12) ∧ ((hK (sAI h (hR h 1211 v0) (v1).toNatClampNeg (0 : Int32)) (hR (sAI h (hR h 1211 v0) (v1).toNatClampNeg (0 : Int32)) 1223 v0) = 21) ∧ ((inA (sAI h (hR h 1211 v0) (v1).toNatClampNeg (0 : Int32)) (hR (sAI h (hR h 1211 v0) (v1).toNatClampNeg (0 : Int32)) 1223 v0) v1 = true) ∧ (Q (.inl none) (sAI (sAI h (hR h 1211 v0) (v1).toNatClampNeg (0 : Int32)) (hR (sAI h (hR h 1211 v0) (v1).toNatClampNeg (0 : Int32)) 1223 v0) (v1).toNatClampNeg (0 : Int32))))))))) : WP d mX12_follows 0 [some (.ref v0), some (.int v1)] [] h Q := by
  refine w_aload_n dX12_follows_0 rfl ?_
  obtain ⟨g1, k⟩ := k
  refine w_getR dX12_follows_1 f_12_39 t_12_11 g1 ?_
  refine w_iload_n dX12_follows_4 rfl ?_
  refine w_iconst dX12_follows_5 i1_0 ?_
  obtain ⟨g2, k⟩ := k
  obtain ⟨g3, k⟩ := k
  refine w_iastore dX12_follows_6 g2 g3 ?_
  refine w_aload_n dX12_follows_7 rfl ?_
  obtain ⟨g4, k⟩ := k
  refine w_getR dX12_follows_8 f_12_75 t_12_23 g4 ?_
  refine w_iload_n dX12_follows_11 rfl ?_
  refine w_iconst dX12_follows_12 i1_0 ?_
  obtain ⟨g5, k⟩ := k
  obtain ⟨g6, k⟩ := k
  refine w_bastore dX12_follows_13 g5 g6 rfl ?_
  exact w_return dX12_follows_14 rfl k
theorem bX12_toggle_0 {d : Nat} {h : HP} {Q : Out → HP → Prop} {v0 : Nat} {v1 : Int32} {u2 : Option Value} (k : (1 < v0) ∧ ((hK h v0 = 12) ∧ (WP d mX12_isMachine 0 [some (.ref v0), some (.int v1)] [] h (KK d mX12_toggle mX12_isMachine 3 [some (.ref v0), some (.int v1), u2] [.ref v0] Q)))) : WP (d + 1) mX12_toggle 0 [some (.ref v0), some (.int v1), u2] [] h Q := by
  refine w_aload_n dX12_toggle_0 rfl ?_
  refine w_aload_n dX12_toggle_1 rfl ?_
  refine w_iload_n dX12_toggle_2 rfl ?_
  obtain ⟨g1, k⟩ := k
  obtain ⟨g2, k⟩ := k
  exact w_virt (as1 := [.int v1, .ref v0]) (as2 := [.ref v0, .int v1]) (rest := [.ref v0]) (lo2 := [some (.ref v0), some (.int v1)]) dX12_toggle_3 c_12_181 rfl rfl rfl (Nat.le_of_ble_eq_true rfl) (Nat.le_of_ble_eq_true rfl) rfl (Nat.le_of_ble_eq_true rfl) rfl rfl g1 g2 k
theorem bX12_toggle_6 {d : Nat} {h : HP} {Q : Out → HP → Prop} {v0 : Nat} {v1 : Int32} {u2 : Option Value} {s0 : Int32} {s1 : Nat} (k : (1 < s1) ∧ ((hK h s1 = 12) ∧ (WP d mX12_goes 0 [some (.ref s1), some (.int s0), some (.int (1 : Int32)), some (.int (1 : Int32))] [] h (KK d mX12_toggle mX12_goes 8 [some (.ref v0), some (.int v1), u2] [] Q)))) : WP (d + 1) mX12_toggle 6 [some (.ref v0), some (.int v1), u2] [.int s0, .ref s1] h Q := by
  refine w_iconst dX12_toggle_6 i1_1 ?_
  refine w_iconst dX12_toggle_7 i1_1 ?_
  obtain ⟨g1, k⟩ := k
  obtain ⟨g2, k⟩ := k
  exact w_virt (as1 := [.int (1 : Int32), .int (1 : Int32), .int s0, .ref s1]) (as2 := [.ref s1, .int s0, .int (1 : Int32), .int (1 : Int32)]) (rest := []) (lo2 := [some (.ref s1), some (.int s0), some (.int (1 : Int32)), some (.int (1 : Int32))]) dX12_toggle_8 c_12_173 rfl rfl rfl (Nat.le_of_ble_eq_true rfl) (Nat.le_of_ble_eq_true rfl) rfl (Nat.le_of_ble_eq_true rfl) rfl rfl g1 g2 k
theorem bX12_toggle_11 {d : Nat} {h : HP} {Q : Out → HP → Prop} {v0 : Nat} {v1 : Int32} {u2 : Option Value} {s0 : Int32} (k : ((¬ s0 = 0) → (hK h v0 = 12) ∧ ((hK (sI h 1204 v0 ((hI h 1204 v0) + (1 : Int32))) v0 = 12) ∧ ((hK (sI h 1204 v0 ((hI h 1204 v0) + (1 : Int32))) (hR (sI h 1204 v0 ((hI h 1204 v0) + (1 : Int32))) 1205 v0) = 21) ∧ ((inA (sI h 1204 v0 ((hI h 1204 v0) + (1 : Int32))) (hR (sI h 1204 v0 ((hI h 1204 v0) + (1 : Int32))) 1205 v0) v1 = true) ∧ (((¬ (hAI (sI h 1204 v0 ((hI h 1204 v0) + (1 : Int32))) (hR (sI h 1204 v0 ((hI h 1204 v0) + (1 : Int32))) 1205 v0) (v1).toNatClampNeg) = 0) → (hK (sAI (sI h 1204 v0 ((hI h 1204 v0) + (1 : Int32))) (hR (sI h 1204 v0 ((hI h 1204 v0) + (1 : Int32))) 1205 v0) (v1).toNatClampNeg (0 : Int32)) v0 = 12) ∧ ((hK (sAI (sI h 1204 v0 ((hI h 1204 v0) + (1 : Int32))) (hR (sI h 1204 v0 ((hI h 1204 v0) + (1 : Int32))) 1205 v0) (v1).toNatClampNeg (0 : Int32)) (hR (sAI (sI h 1204 v0 ((hI h 1204 v0) + (1 : Int32))) (hR (sI h 1204 v0 ((hI h 1204 v0) + (1 : Int32))) 1205 v0) (v1).toNatClampNeg (0 : Int32)) 1205 v0) = 21) ∧ ((inA (sAI (sI h 1204 v0 ((hI h 1204 v0) + (1 : Int32))) (hR (sI h 1204 v0 ((hI h 1204 v0) + (1 : Int32))) 1205 v0) (v1).toNatClampNeg (0 : Int32)) (hR (sAI (sI h 1204 v0 ((hI h 1204 v0) + (1 : Int32))) (hR (sI h 1204 v0 ((hI h 1204 v0) + (1 : Int32))) 1205 v0) (v1).toNatClampNeg (0 : Int32)) 1205 v0) v1 = true) ∧ ((((hAI (sAI (sI h 1204 v0 ((hI h 1204 v0) + (1 : Int32))) (hR (sI h 1204 v0 ((hI h 1204 v0) + (1 : Int32))) 1205 v0) (v1).toNatClampNeg (0 : Int32)) (hR (sAI (sI h 1204 v0 ((hI h 1204 v0) + (1 : Int32))) (hR (sI h 1204 v0 ((hI h 1204 v0) + (1 : Int32))) 1205 v0) (v1).toNatClampNeg (0 : Int32)) 1205 v0) (v1).toNatClampNeg) = 0) → (1 < v0) ∧ (WP d mX12_follows 0 [some (.ref v0), some (.int v1)] [] (sAI (sI h 1204 v0 ((hI h 1204 v0) + (1 : Int32))) (hR (sI h 1204 v0 ((hI h 1204 v0) + (1 : Int32))) 1205 v0) (v1).toNatClampNeg (0 : Int32)) (KK d mX12_toggle mX12_follows 84 [some (.ref v0), some (.int v1), u2] [] Q))) ∧ ((¬ ((hAI (sAI (sI h 1204 v0 ((hI h 1204 v0) + (1 : Int32))) (hR (sI h 1204 v0 ((hI h 1204 v0) + (1 : Int32))) 1205 v0) (v1).toNatClampNeg (0 : Int32)) (hR (sAI (sI h 1204 v0 ((hI h 1204 v0) + (1 : Int32))) (hR (sI h 1204 v0 ((hI h 1204 v0) + (1 : Int32))) 1205 v0) (v1).toNatClampNeg (0 : Int32)) 1205 v0) (v1).toNatClampNeg) = 0)) → (hK (sAI (sI h 1204 v0 ((hI h 1204 v0) + (1 : Int32))) (hR (sI h 1204 v0 ((hI h 1204 v0) + (1 : Int32))) 1205 v0) (v1).toNatClampNeg (0 : Int32)) (hR (sAI (sI h 1204 v0 ((hI h 1204 v0) + (1 : Int32))) (hR (sI h 1204 v0 ((hI h 1204 v0) + (1 : Int32))) 1205 v0) (v1).toNatClampNeg (0 : Int32)) 1225 v0) = 20) ∧ ((inA (sAI (sI h 1204 v0 ((hI h 1204 v0) + (1 : Int32))) (hR (sI h 1204 v0 ((hI h 1204 v0) + (1 : Int32))) 1205 v0) (v1).toNatClampNeg (0 : Int32)) (hR (sAI (sI h 1204 v0 ((hI h 1204 v0) + (1 : Int32))) (hR (sI h 1204 v0 ((hI h 1204 v0) + (1 : Int32))) 1205 v0) (v1).toNatClampNeg (0 : Int32)) 1225 v0) v1 = true) ∧ ((hK (sAI (sAI (sI h 1204 v0 ((hI h 1204 v0) + (1 : Int32))) (hR (sI h 1204 v0 ((hI h 1204 v0) + (1 : Int32))) 1205 v0) (v1).toNatClampNeg (0 : Int32)) (hR (sAI (sI h 1204 v0 ((hI h 1204 v0) + (1 : Int32))) (hR (sI h 1204 v0 ((hI h 1204 v0) + (1 : Int32))) 1205 v0) (v1).toNatClampNeg (0 : Int32)) 1225 v0) (v1).toNatClampNeg v1) v0 = 12) ∧ (WP (d + 1) mX12_toggle 66 [some (.ref v0), some (.int v1), u2] [.ref (hR (sAI (sAI (sI h 1204 v0 ((hI h 1204 v0) + (1 : Int32))) (hR (sI h 1204 v0 ((hI h 1204 v0) + (1 : Int32))) 1205 v0) (v1).toNatClampNeg (0 : Int32)) (hR (sAI (sI h 1204 v0 ((hI h 1204 v0) + (1 : Int32))) (hR (sI h 1204 v0 ((hI h 1204 v0) + (1 : Int32))) 1205 v0) (v1).toNatClampNeg (0 : Int32)) 1225 v0) (v1).toNatClampNeg v1) 1226 v0)] (sAI (sAI (sI h 1204 v0 ((hI h 1204 v0) + (1 : Int32))) (hR (sI h 1204 v0 ((hI h 1204 v0) + (1 : Int32))) 1205 v0) (v1).toNatClampNeg (0 : Int32)) (hR (sAI (sI h 1204 v0 ((hI h 1204 v0) + (1 : Int32))) (hR (sI h 1204 v0 ((hI h 1204 v0) + (1 : Int32))) 1205 v0) (v1).toNatClampNeg (0 : Int32)) 1225 v0) (v1).toNatClampNeg v1) Q)))))))) ∧ ((¬ (¬ (hAI (sI h 1204 v0 ((hI h 1204 v0) + (1 : Int32))) (hR (sI h 1204 v0 ((hI h 1204 v0) + (1 : Int32))) 1205 v0) (v1).toNatClampNeg) = 0)) → (hK (sAI (sI h 1204 v0 ((hI h 1204 v0) + (1 : Int32))) (hR (sI h 1204 v0 ((hI h 1204 v0) + (1 : Int32))) 1205 v0) (v1).toNatClampNeg (1 : Int32)) v0 = 12) ∧ ((hK (sAI (sI h 1204 v0 ((hI h 1204 v0) + (1 : Int32))) (hR (sI h 1204 v0 ((hI h 1204 v0) + (1 : Int32))) 1205 v0) (v1).toNatClampNeg (1 : Int32)) (hR (sAI (sI h 1204 v0 ((hI h 1204 v0) + (1 : Int32))) (hR (sI h 1204 v0 ((hI h 1204 v0) + (1 : Int32))) 1205 v0) (v1).toNatClampNeg (1 : Int32)) 1205 v0) = 21) ∧ ((inA (sAI (sI h 1204 v0 ((hI h 1204 v0) + (1 : Int32))) (hR (sI h 1204 v0 ((hI h 1204 v0) + (1 : Int32))) 1205 v0) (v1).toNatClampNeg (1 : Int32)) (hR (sAI (sI h 1204 v0 ((hI h 1204 v0) + (1 : Int32))) (hR (sI h 1204 v0 ((hI h 1204 v0) + (1 : Int32))) 1205 v0) (v1).toNatClampNeg (1 : Int32)) 1205 v0) v1 = true) ∧ ((((hAI (sAI (sI h 1204 v0 ((hI h 1204 v0) + (1 : Int32))) (hR (sI h 1204 v0 ((hI h 1204 v0) + (1 : Int32))) 1205 v0) (v1).toNatClampNeg (1 : Int32)) (hR (sAI (sI h 1204 v0 ((hI h 1204 v0) + (1 : Int32))) (hR (sI h 1204 v0 ((hI h 1204 v0) + (1 : Int32))) 1205 v0) (v1).toNatClampNeg (1 : Int32)) 1205 v0) (v1).toNatClampNeg) = 0) → (1 < v0) ∧ (WP d mX12_follows 0 [some (.ref v0), some (.int v1)] [] (sAI (sI h 1204 v0 ((hI h 1204 v0) + (1 : Int32))) (hR (sI h 1204 v0 ((hI h 1204 v0) + (1 : Int32))) 1205 v0) (v1).toNatClampNeg (1 : Int32)) (KK d mX12_toggle mX12_follows 84 [some (.ref v0), some (.int v1), u2] [] Q))) ∧ ((¬ ((hAI (sAI (sI h 1204 v0 ((hI h 1204 v0) + (1 : Int32))) (hR (sI h 1204 v0 ((hI h 1204 v0) + (1 : Int32))) 1205 v0) (v1).toNatClampNeg (1 : Int32)) (hR (sAI (sI h 1204 v0 ((hI h 1204 v0) + (1 : Int32))) (hR (sI h 1204 v0 ((hI h 1204 v0) + (1 : Int32))) 1205 v0) (v1).toNatClampNeg (1 : Int32)) 1205 v0) (v1).toNatClampNeg) = 0)) → (hK (sAI (sI h 1204 v0 ((hI h 1204 v0) + (1 : Int32))) (hR (sI h 1204 v0 ((hI h 1204 v0) + (1 : Int32))) 1205 v0) (v1).toNatClampNeg (1 : Int32)) (hR (sAI (sI h 1204 v0 ((hI h 1204 v0) + (1 : Int32))) (hR (sI h 1204 v0 ((hI h 1204 v0) + (1 : Int32))) 1205 v0) (v1).toNatClampNeg (1 : Int32)) 1225 v0) = 20) ∧ ((inA (sAI (sI h 1204 v0 ((hI h 1204 v0) + (1 : Int32))) (hR (sI h 1204 v0 ((hI h 1204 v0) + (1 : Int32))) 1205 v0) (v1).toNatClampNeg (1 : Int32)) (hR (sAI (sI h 1204 v0 ((hI h 1204 v0) + (1 : Int32))) (hR (sI h 1204 v0 ((hI h 1204 v0) + (1 : Int32))) 1205 v0) (v1).toNatClampNeg (1 : Int32)) 1225 v0) v1 = true) ∧ ((hK (sAI (sAI (sI h 1204 v0 ((hI h 1204 v0) + (1 : Int32))) (hR (sI h 1204 v0 ((hI h 1204 v0) + (1 : Int32))) 1205 v0) (v1).toNatClampNeg (1 : Int32)) (hR (sAI (sI h 1204 v0 ((hI h 1204 v0) + (1 : Int32))) (hR (sI h 1204 v0 ((hI h 1204 v0) + (1 : Int32))) 1205 v0) (v1).toNatClampNeg (1 : Int32)) 1225 v0) (v1).toNatClampNeg v1) v0 = 12) ∧ (WP (d + 1) mX12_toggle 66 [some (.ref v0), some (.int v1), u2] [.ref (hR (sAI (sAI (sI h 1204 v0 ((hI h 1204 v0) + (1 : Int32))) (hR (sI h 1204 v0 ((hI h 1204 v0) + (1 : Int32))) 1205 v0) (v1).toNatClampNeg (1 : Int32)) (hR (sAI (sI h 1204 v0 ((hI h 1204 v0) + (1 : Int32))) (hR (sI h 1204 v0 ((hI h 1204 v0) + (1 : Int32))) 1205 v0) (v1).toNatClampNeg (1 : Int32)) 1225 v0) (v1).toNatClampNeg v1) 1226 v0)] (sAI (sAI (sI h 1204 v0 ((hI h 1204 v0) + (1 : Int32))) (hR (sI h 1204 v0 ((hI h 1204 v0) + (1 : Int32))) 1205 v0) (v1).toNatClampNeg (1 : Int32)) (hR (sAI (sI h 1204 v0 ((hI h 1204 v0) + (1 : Int32))) (hR (sI h 1204 v0 ((hI h 1204 v0) + (1 : Int32))) 1205 v0) (v1).toNatClampNeg (1 : Int32)) 1225 v0) (v1).toNatClampNeg v1) Q))))))))))))) ∧ ((¬ (¬ s0 = 0)) → Q (.inl (some (.int (0 : Int32)))) h)) : WP (d + 1) mX12_toggle 11 [some (.ref v0), some (.int v1), u2] [.int s0] h Q := by
  refine w_if_ne (pc' := 16) dX12_toggle_11 rfl rfl ⟨fun c => ?_, fun c => ?_⟩
  · replace k := k.1 c
    refine w_aload_n dX12_toggle_16 rfl ?_
    refine w_dup dX12_toggle_17 rfl ?_
    obtain ⟨g1, k⟩ := k
    refine w_getI dX12_toggle_18 f_12_164 t_12_4 g1 ?_
    refine w_iconst dX12_toggle_21 i1_1 ?_
    refine w_iadd dX12_toggle_22 ?_
    refine w_putI dX12_toggle_23 f_12_164 t_12_4 (pf_nf n_12_4) g1 ?_
    refine w_aload_n dX12_toggle_26 rfl ?_
    obtain ⟨g2, k⟩ := k
    refine w_getR dX12_toggle_27 f_12_18 t_12_5 g2 ?_
    refine w_iload_n dX12_toggle_30 rfl ?_
    refine w_aload_n dX12_toggle_31 rfl ?_
    refine w_getR dX12_toggle_32 f_12_18 t_12_5 g2 ?_
    refine w_iload_n dX12_toggle_35 rfl ?_
    obtain ⟨g3, k⟩ := k
    obtain ⟨g4, k⟩ := k
    refine w_baload dX12_toggle_36 g3 g4 ?_
    refine w_if_ne (pc' := 44) dX12_toggle_37 rfl rfl ⟨fun c => ?_, fun c => ?_⟩
    · replace k := k.1 c
      refine w_iconst dX12_toggle_44 i1_0 ?_
      refine w_bastore dX12_toggle_45 g3 g4 rfl ?_
      refine w_aload_n dX12_toggle_46 rfl ?_
      obtain ⟨g5, k⟩ := k
      refine w_getR dX12_toggle_47 f_12_18 t_12_5 g5 ?_
      refine w_iload_n dX12_toggle_50 rfl ?_
      obtain ⟨g6, k⟩ := k
      obtain ⟨g7, k⟩ := k
      refine w_baload dX12_toggle_51 g6 g7 ?_
      refine w_if_eq (pc' := 82) dX12_toggle_52 rfl rfl ⟨fun c => ?_, fun c => ?_⟩
      · replace k := k.1 c
        refine w_aload_n dX12_toggle_82 rfl ?_
        refine w_iload_n dX12_toggle_83 rfl ?_
        obtain ⟨g8, k⟩ := k
        exact w_virt (as1 := [.int v1, .ref v0]) (as2 := [.ref v0, .int v1]) (rest := []) (lo2 := [some (.ref v0), some (.int v1)]) dX12_toggle_84 c_12_184 rfl rfl rfl (Nat.le_of_ble_eq_true rfl) (Nat.le_of_ble_eq_true rfl) rfl (Nat.le_of_ble_eq_true rfl) rfl rfl g8 g5 k
      · replace k := k.2 c
        refine w_aload_n dX12_toggle_55 rfl ?_
        refine w_getR dX12_toggle_56 f_12_81 t_12_25 g5 ?_
        refine w_iload_n dX12_toggle_59 rfl ?_
        refine w_iload_n dX12_toggle_60 rfl ?_
        obtain ⟨g9, k⟩ := k
        obtain ⟨g10, k⟩ := k
        refine w_iastore dX12_toggle_61 g9 g10 ?_
        refine w_aload_n dX12_toggle_62 rfl ?_
        obtain ⟨g11, k⟩ := k
        refine w_getR dX12_toggle_63 f_12_84 t_12_26 g11 ?_
        exact k
    · replace k := k.2 c
      refine w_iconst dX12_toggle_40 i1_1 ?_
      refine w_goto (pc' := 45) dX12_toggle_41 rfl rfl ?_
      refine w_bastore dX12_toggle_45 g3 g4 rfl ?_
      refine w_aload_n dX12_toggle_46 rfl ?_
      obtain ⟨g12, k⟩ := k
      refine w_getR dX12_toggle_47 f_12_18 t_12_5 g12 ?_
      refine w_iload_n dX12_toggle_50 rfl ?_
      obtain ⟨g13, k⟩ := k
      obtain ⟨g14, k⟩ := k
      refine w_baload dX12_toggle_51 g13 g14 ?_
      refine w_if_eq (pc' := 82) dX12_toggle_52 rfl rfl ⟨fun c => ?_, fun c => ?_⟩
      · replace k := k.1 c
        refine w_aload_n dX12_toggle_82 rfl ?_
        refine w_iload_n dX12_toggle_83 rfl ?_
        obtain ⟨g15, k⟩ := k
        exact w_virt (as1 := [.int v1, .ref v0]) (as2 := [.ref v0, .int v1]) (rest := []) (lo2 := [some (.ref v0), some (.int v1)]) dX12_toggle_84 c_12_184 rfl rfl rfl (Nat.le_of_ble_eq_true rfl) (Nat.le_of_ble_eq_true rfl) rfl (Nat.le_of_ble_eq_true rfl) rfl rfl g15 g12 k
      · replace k := k.2 c
        refine w_aload_n dX12_toggle_55 rfl ?_
        refine w_getR dX12_toggle_56 f_12_81 t_12_25 g12 ?_
        refine w_iload_n dX12_toggle_59 rfl ?_
        refine w_iload_n dX12_toggle_60 rfl ?_
        obtain ⟨g16, k⟩ := k
        obtain ⟨g17, k⟩ := k
        refine w_iastore dX12_toggle_61 g16 g17 ?_
        refine w_aload_n dX12_toggle_62 rfl ?_
        obtain ⟨g18, k⟩ := k
        refine w_getR dX12_toggle_63 f_12_84 t_12_26 g18 ?_
        exact k
  · replace k := k.2 c
    refine w_iconst dX12_toggle_14 i1_0 ?_
    exact w_ireturn dX12_toggle_15 rfl k
theorem bX12_toggle_66 {d : Nat} {h : HP} {Q : Out → HP → Prop} {v0 : Nat} {v1 : Int32} {u2 : Option Value} {s0 : Nat} (k : (hK h v0 = 12) ∧ ((hK h (hR h 1207 v0) = 22) ∧ ((inA h (hR h 1207 v0) v1 = true) ∧ ((nn32 (FP.fadd (hAF h (hR h 1207 v0) (v1).toNatClampNeg) (hF h 1202 v0)) = true) ∧ ((hK h s0 = 22) ∧ ((inA h s0 v1 = true) ∧ ((1 < v0) ∧ ((hK (sAF h s0 (v1).toNatClampNeg (FP.fadd (hAF h (hR h 1207 v0) (v1).toNatClampNeg) (hF h 1202 v0))) v0 = 12) ∧ (WP d mX12_ends 0 [some (.ref v0), none] [] (sAF h s0 (v1).toNatClampNeg (FP.fadd (hAF h (hR h 1207 v0) (v1).toNatClampNeg) (hF h 1202 v0))) (KK d mX12_toggle mX12_ends 121 [some (.ref v0), some (.int v1), u2] [] Q)))))))))) : WP (d + 1) mX12_toggle 66 [some (.ref v0), some (.int v1), u2] [.ref s0] h Q := by
  refine w_iload_n dX12_toggle_66 rfl ?_
  refine w_aload_n dX12_toggle_67 rfl ?_
  obtain ⟨g1, k⟩ := k
  refine w_getR dX12_toggle_68 f_12_25 t_12_7 g1 ?_
  refine w_iload_n dX12_toggle_71 rfl ?_
  obtain ⟨g2, k⟩ := k
  obtain ⟨g3, k⟩ := k
  refine w_faload dX12_toggle_72 g2 g3 ?_
  refine w_aload_n dX12_toggle_73 rfl ?_
  refine w_getF dX12_toggle_74 f_12_14 t_12_2 g1 ?_
  obtain ⟨g4, k⟩ := k
  refine w_fadd dX12_toggle_77 g4 ?_
  obtain ⟨g5, k⟩ := k
  obtain ⟨g6, k⟩ := k
  refine w_fastore dX12_toggle_78 g5 g6 ?_
  refine w_goto (pc' := 120) dX12_toggle_79 rfl rfl ?_
  refine w_aload_n dX12_toggle_120 rfl ?_
  obtain ⟨g7, k⟩ := k
  obtain ⟨g8, k⟩ := k
  exact w_virt (as1 := [.ref v0]) (as2 := [.ref v0]) (rest := []) (lo2 := [some (.ref v0), none]) dX12_toggle_121 c_12_187 rfl rfl rfl (Nat.le_of_ble_eq_true rfl) (Nat.le_of_ble_eq_true rfl) rfl (Nat.le_of_ble_eq_true rfl) rfl rfl g7 g8 k
theorem bX12_toggle_87 {d : Nat} {h : HP} {Q : Out → HP → Prop} {v0 : Nat} {v1 : Int32} {u2 : Option Value} (k : (hK h v0 = 12) ∧ ((hK h (hR h 1213 v0) = 20) ∧ ((inA h (hR h 1213 v0) v1 = true) ∧ (WP d mX12_toggle 98 [some (.ref v0), some (.int v1), some (.int ((4 : Int32) * v1))] [] (sAI h (hR h 1213 v0) (v1).toNatClampNeg (0 : Int32)) Q)))) : WP d mX12_toggle 87 [some (.ref v0), some (.int v1), u2] [] h Q := by
  refine w_aload_n dX12_toggle_87 rfl ?_
  obtain ⟨g1, k⟩ := k
  refine w_getR dX12_toggle_88 f_12_45 t_12_13 g1 ?_
  refine w_iload_n dX12_toggle_91 rfl ?_
  refine w_iconst dX12_toggle_92 i1_0 ?_
  obtain ⟨g2, k⟩ := k
  obtain ⟨g3, k⟩ := k
  refine w_iastore dX12_toggle_93 g2 g3 ?_
  refine w_iconst dX12_toggle_94 i1_4 ?_
  refine w_iload_n dX12_toggle_95 rfl ?_
  refine w_imul dX12_toggle_96 ?_
  refine w_istore_n (lo' := [some (.ref v0), some (.int v1), some (.int ((4 : Int32) * v1))]) dX12_toggle_97 (ltQ rfl) rfl ?_
  exact k
theorem bX12_toggle_98 {d : Nat} {h : HP} {Q : Out → HP → Prop} {v0 : Nat} {v1 : Int32} {v2 : Int32} (k : (((((4 : Int32) * v1) + (4 : Int32)) ≤ v2) → (1 < v0) ∧ ((hK h v0 = 12) ∧ (WP d mX12_ends 0 [some (.ref v0), none] [] h (KK d mX12_toggle mX12_ends 121 [some (.ref v0), some (.int v1), some (.int v2)] [] Q)))) ∧ ((¬ ((((4 : Int32) * v1) + (4 : Int32)) ≤ v2)) → (hK h v0 = 12) ∧ ((hK h (hR h 1231 v0) = 20) ∧ ((inA h (hR h 1231 v0) v2 = true) ∧ (WP (d + 1) mX12_toggle 98 [some (.ref v0), some (.int v1), some (.int (v2 + (1 : Int32)))] [] (sAI h (hR h 1231 v0) (v2).toNatClampNeg (-1 : Int32)) Q))))) : WP (d + 1) mX12_toggle 98 [some (.ref v0), some (.int v1), some (.int v2)] [] h Q := by
  refine w_iload_n dX12_toggle_98 rfl ?_
  refine w_iconst dX12_toggle_99 i1_4 ?_
  refine w_iload_n dX12_toggle_100 rfl ?_
  refine w_imul dX12_toggle_101 ?_
  refine w_iconst dX12_toggle_102 i1_4 ?_
  refine w_iadd dX12_toggle_103 ?_
  refine w_ic_ge (pc' := 120) dX12_toggle_104 rfl rfl ⟨fun c => ?_, fun c => ?_⟩
  · replace k := k.1 c
    refine w_aload_n dX12_toggle_120 rfl ?_
    obtain ⟨g1, k⟩ := k
    obtain ⟨g2, k⟩ := k
    exact w_virt (as1 := [.ref v0]) (as2 := [.ref v0]) (rest := []) (lo2 := [some (.ref v0), none]) dX12_toggle_121 c_12_187 rfl rfl rfl (Nat.le_of_ble_eq_true rfl) (Nat.le_of_ble_eq_true rfl) rfl (Nat.le_of_ble_eq_true rfl) rfl rfl g1 g2 k
  · replace k := k.2 c
    refine w_aload_n dX12_toggle_107 rfl ?_
    obtain ⟨g3, k⟩ := k
    refine w_getR dX12_toggle_108 f_12_99 t_12_31 g3 ?_
    refine w_iload_n dX12_toggle_111 rfl ?_
    refine w_iconst dX12_toggle_112 i1_m1 ?_
    obtain ⟨g4, k⟩ := k
    obtain ⟨g5, k⟩ := k
    refine w_iastore dX12_toggle_113 g4 g5 ?_
    refine w_iinc (lo' := [some (.ref v0), some (.int v1), some (.int (v2 + (1 : Int32)))]) dX12_toggle_114 rfl i1_1 rfl ?_
    refine w_goto (pc' := 98) dX12_toggle_117 rfl rfl ?_
    exact k
theorem bX12_toggle_124 {d : Nat} {h : HP} {Q : Out → HP → Prop} {v0 : Nat} {v1 : Int32} {u2 : Option Value} (k : (hK h v0 = 12) ∧ ((hK h (hR h 1205 v0) = 21) ∧ ((inA h (hR h 1205 v0) v1 = true) ∧ ((isZ (hAI h (hR h 1205 v0) (v1).toNatClampNeg) = true) ∧ (Q (.inl (some (.int (hAI h (hR h 1205 v0) (v1).toNatClampNeg)))) h))))) : WP d mX12_toggle 124 [some (.ref v0), some (.int v1), u2] [] h Q := by
  refine w_aload_n dX12_toggle_124 rfl ?_
  obtain ⟨g1, k⟩ := k
  refine w_getR dX12_toggle_125 f_12_18 t_12_5 g1 ?_
  refine w_iload_n dX12_toggle_128 rfl ?_
  obtain ⟨g2, k⟩ := k
  obtain ⟨g3, k⟩ := k
  refine w_baload dX12_toggle_129 g2 g3 ?_
  obtain ⟨g4, k⟩ := k
  exact w_ireturn dX12_toggle_130 g4 k
theorem bX12_cut_0 {d : Nat} {h : HP} {Q : Out → HP → Prop} {v0 : Nat} {v1 : Int32} {v2 : Int32} (k : (1 < v0) ∧ ((hK h v0 = 12) ∧ (WP d mX12_isMachine 0 [some (.ref v0), some (.int v1)] [] h (KK d mX12_cut mX12_isMachine 3 [some (.ref v0), some (.int v1), some (.int v2)] [.ref v0] Q)))) : WP (d + 1) mX12_cut 0 [some (.ref v0), some (.int v1), some (.int v2)] [] h Q := by
  refine w_aload_n dX12_cut_0 rfl ?_
  refine w_aload_n dX12_cut_1 rfl ?_
  refine w_iload_n dX12_cut_2 rfl ?_
  obtain ⟨g1, k⟩ := k
  obtain ⟨g2, k⟩ := k
  exact w_virt (as1 := [.int v1, .ref v0]) (as2 := [.ref v0, .int v1]) (rest := [.ref v0]) (lo2 := [some (.ref v0), some (.int v1)]) dX12_cut_3 c_12_181 rfl rfl rfl (Nat.le_of_ble_eq_true rfl) (Nat.le_of_ble_eq_true rfl) rfl (Nat.le_of_ble_eq_true rfl) rfl rfl g1 g2 k
theorem bX12_cut_6 {d : Nat} {h : HP} {Q : Out → HP → Prop} {v0 : Nat} {v1 : Int32} {v2 : Int32} {s0 : Int32} {s1 : Nat} (k : ((s0 = 0) → ((v1 = v2) → (1 < s1) ∧ ((hK h s1 = 12) ∧ (WP d mX12_goes 0 [some (.ref s1), some (.int (0 : Int32)), some (.int (0 : Int32)), some (.int (1 : Int32))] [] h (KK d mX12_cut mX12_goes 33 [some (.ref v0), some (.int v1), some (.int v2)] [] Q)))) ∧ ((¬ (v1 = v2)) → (1 < s1) ∧ ((hK h s1 = 12) ∧ (WP d mX12_goes 0 [some (.ref s1), some (.int (0 : Int32)), some (.int (1 : Int32)), some (.int (1 : Int32))] [] h (KK d mX12_cut mX12_goes 33 [some (.ref v0), some (.int v1), some (.int v2)] [] Q))))) ∧ ((¬ (s0 = 0)) → (1 < v0) ∧ ((hK h v0 = 12) ∧ (WP d mX12_isMachine 0 [some (.ref v0), some (.int v2)] [] h (KK d mX12_cut mX12_isMachine 11 [some (.ref v0), some (.int v1), some (.int v2)] [.ref s1] Q))))) : WP (d + 1) mX12_cut 6 [some (.ref v0), some (.int v1), some (.int v2)] [.int s0, .ref s1] h Q := by
  refine w_if_eq (pc' := 21) dX12_cut_6 rfl rfl ⟨fun c => ?_, fun c => ?_⟩
  · replace k := k.1 c
    refine w_iconst dX12_cut_21 i1_0 ?_
    refine w_iload_n dX12_cut_22 rfl ?_
    refine w_iload_n dX12_cut_23 rfl ?_
    refine w_ic_eq (pc' := 31) dX12_cut_24 rfl rfl ⟨fun c => ?_, fun c => ?_⟩
    · replace k := k.1 c
      refine w_iconst dX12_cut_31 i1_0 ?_
      refine w_iconst dX12_cut_32 i1_1 ?_
      obtain ⟨g1, k⟩ := k
      obtain ⟨g2, k⟩ := k
      exact w_virt (as1 := [.int (1 : Int32), .int (0 : Int32), .int (0 : Int32), .ref s1]) (as2 := [.ref s1, .int (0 : Int32), .int (0 : Int32), .int (1 : Int32)]) (rest := []) (lo2 := [some (.ref s1), some (.int (0 : Int32)), some (.int (0 : Int32)), some (.int (1 : Int32))]) dX12_cut_33 c_12_173 rfl rfl rfl (Nat.le_of_ble_eq_true rfl) (Nat.le_of_ble_eq_true rfl) rfl (Nat.le_of_ble_eq_true rfl) rfl rfl g1 g2 k
    · replace k := k.2 c
      refine w_iconst dX12_cut_27 i1_1 ?_
      refine w_goto (pc' := 32) dX12_cut_28 rfl rfl ?_
      refine w_iconst dX12_cut_32 i1_1 ?_
      obtain ⟨g3, k⟩ := k
      obtain ⟨g4, k⟩ := k
      exact w_virt (as1 := [.int (1 : Int32), .int (1 : Int32), .int (0 : Int32), .ref s1]) (as2 := [.ref s1, .int (0 : Int32), .int (1 : Int32), .int (1 : Int32)]) (rest := []) (lo2 := [some (.ref s1), some (.int (0 : Int32)), some (.int (1 : Int32)), some (.int (1 : Int32))]) dX12_cut_33 c_12_173 rfl rfl rfl (Nat.le_of_ble_eq_true rfl) (Nat.le_of_ble_eq_true rfl) rfl (Nat.le_of_ble_eq_true rfl) rfl rfl g3 g4 k
  · replace k := k.2 c
    refine w_aload_n dX12_cut_9 rfl ?_
    refine w_iload_n dX12_cut_10 rfl ?_
    obtain ⟨g5, k⟩ := k
    obtain ⟨g6, k⟩ := k
    exact w_virt (as1 := [.int v2, .ref v0]) (as2 := [.ref v0, .int v2]) (rest := [.ref s1]) (lo2 := [some (.ref v0), some (.int v2)]) dX12_cut_11 c_12_181 rfl rfl rfl (Nat.le_of_ble_eq_true rfl) (Nat.le_of_ble_eq_true rfl) rfl (Nat.le_of_ble_eq_true rfl) rfl rfl g5 g6 k
theorem bX12_cut_14 {d : Nat} {h : HP} {Q : Out → HP → Prop} {v0 : Nat} {v1 : Int32} {v2 : Int32} {s0 : Int32} {s1 : Nat} (k : ((s0 = 0) → ((v1 = v2) → (1 < s1) ∧ ((hK h s1 = 12) ∧ (WP d mX12_goes 0 [some (.ref s1), some (.int (0 : Int32)), some (.int (0 : Int32)), some (.int (1 : Int32))] [] h (KK d mX12_cut mX12_goes 33 [some (.ref v0), some (.int v1), some (.int v2)] [] Q)))) ∧ ((¬ (v1 = v2)) → (1 < s1) ∧ ((hK h s1 = 12) ∧ (WP d mX12_goes 0 [some (.ref s1), some (.int (0 : Int32)), some (.int (1 : Int32)), some (.int (1 : Int32))] [] h (KK d mX12_cut mX12_goes 33 [some (.ref v0), some (.int v1), some (.int v2)] [] Q))))) ∧ ((¬ (s0 = 0)) → ((v1 = v2) → (1 < s1) ∧ ((hK h s1 = 12) ∧ (WP d mX12_goes 0 [some (.ref s1), some (.int (1 : Int32)), some (.int (0 : Int32)), some (.int (1 : Int32))] [] h (KK d mX12_cut mX12_goes 33 [some (.ref v0), some (.int v1), some (.int v2)] [] Q)))) ∧ ((¬ (v1 = v2)) → (1 < s1) ∧ ((hK h s1 = 12) ∧ (WP d mX12_goes 0 [some (.ref s1), some (.int (1 : Int32)), some (.int (1 : Int32)), some (.int (1 : Int32))] [] h (KK d mX12_cut mX12_goes 33 [some (.ref v0), some (.int v1), some (.int v2)] [] Q)))))) : WP (d + 1) mX12_cut 14 [some (.ref v0), some (.int v1), some (.int v2)] [.int s0, .ref s1] h Q := by
  refine w_if_eq (pc' := 21) dX12_cut_14 rfl rfl ⟨fun c => ?_, fun c => ?_⟩
  · replace k := k.1 c
    refine w_iconst dX12_cut_21 i1_0 ?_
    refine w_iload_n dX12_cut_22 rfl ?_
    refine w_iload_n dX12_cut_23 rfl ?_
    refine w_ic_eq (pc' := 31) dX12_cut_24 rfl rfl ⟨fun c => ?_, fun c => ?_⟩
    · replace k := k.1 c
      refine w_iconst dX12_cut_31 i1_0 ?_
      refine w_iconst dX12_cut_32 i1_1 ?_
      obtain ⟨g1, k⟩ := k
      obtain ⟨g2, k⟩ := k
      exact w_virt (as1 := [.int (1 : Int32), .int (0 : Int32), .int (0 : Int32), .ref s1]) (as2 := [.ref s1, .int (0 : Int32), .int (0 : Int32), .int (1 : Int32)]) (rest := []) (lo2 := [some (.ref s1), some (.int (0 : Int32)), some (.int (0 : Int32)), some (.int (1 : Int32))]) dX12_cut_33 c_12_173 rfl rfl rfl (Nat.le_of_ble_eq_true rfl) (Nat.le_of_ble_eq_true rfl) rfl (Nat.le_of_ble_eq_true rfl) rfl rfl g1 g2 k
    · replace k := k.2 c
      refine w_iconst dX12_cut_27 i1_1 ?_
      refine w_goto (pc' := 32) dX12_cut_28 rfl rfl ?_
      refine w_iconst dX12_cut_32 i1_1 ?_
      obtain ⟨g3, k⟩ := k
      obtain ⟨g4, k⟩ := k
      exact w_virt (as1 := [.int (1 : Int32), .int (1 : Int32), .int (0 : Int32), .ref s1]) (as2 := [.ref s1, .int (0 : Int32), .int (1 : Int32), .int (1 : Int32)]) (rest := []) (lo2 := [some (.ref s1), some (.int (0 : Int32)), some (.int (1 : Int32)), some (.int (1 : Int32))]) dX12_cut_33 c_12_173 rfl rfl rfl (Nat.le_of_ble_eq_true rfl) (Nat.le_of_ble_eq_true rfl) rfl (Nat.le_of_ble_eq_true rfl) rfl rfl g3 g4 k
  · replace k := k.2 c
    refine w_iconst dX12_cut_17 i1_1 ?_
    refine w_goto (pc' := 22) dX12_cut_18 rfl rfl ?_
    refine w_iload_n dX12_cut_22 rfl ?_
    refine w_iload_n dX12_cut_23 rfl ?_
    refine w_ic_eq (pc' := 31) dX12_cut_24 rfl rfl ⟨fun c => ?_, fun c => ?_⟩
    · replace k := k.1 c
      refine w_iconst dX12_cut_31 i1_0 ?_
      refine w_iconst dX12_cut_32 i1_1 ?_
      obtain ⟨g5, k⟩ := k
      obtain ⟨g6, k⟩ := k
      exact w_virt (as1 := [.int (1 : Int32), .int (0 : Int32), .int (1 : Int32), .ref s1]) (as2 := [.ref s1, .int (1 : Int32), .int (0 : Int32), .int (1 : Int32)]) (rest := []) (lo2 := [some (.ref s1), some (.int (1 : Int32)), some (.int (0 : Int32)), some (.int (1 : Int32))]) dX12_cut_33 c_12_173 rfl rfl rfl (Nat.le_of_ble_eq_true rfl) (Nat.le_of_ble_eq_true rfl) rfl (Nat.le_of_ble_eq_true rfl) rfl rfl g5 g6 k
    · replace k := k.2 c
      refine w_iconst dX12_cut_27 i1_1 ?_
      refine w_goto (pc' := 32) dX12_cut_28 rfl rfl ?_
      refine w_iconst dX12_cut_32 i1_1 ?_
      obtain ⟨g7, k⟩ := k
      obtain ⟨g8, k⟩ := k
      exact w_virt (as1 := [.int (1 : Int32), .int (1 : Int32), .int (1 : Int32), .ref s1]) (as2 := [.ref s1, .int (1 : Int32), .int (1 : Int32), .int (1 : Int32)]) (rest := []) (lo2 := [some (.ref s1), some (.int (1 : Int32)), some (.int (1 : Int32)), some (.int (1 : Int32))]) dX12_cut_33 c_12_173 rfl rfl rfl (Nat.le_of_ble_eq_true rfl) (Nat.le_of_ble_eq_true rfl) rfl (Nat.le_of_ble_eq_true rfl) rfl rfl g7 g8 k
theorem bX12_cut_36 {d : Nat} {h : HP} {Q : Out → HP → Prop} {v0 : Nat} {v1 : Int32} {v2 : Int32} {s0 : Int32} (k : ((¬ s0 = 0) → (hK h v0 = 12) ∧ ((hK (sI h 1204 v0 ((hI h 1204 v0) + (1 : Int32))) v0 = 12) ∧ ((hK (sI h 1204 v0 ((hI h 1204 v0) + (1 : Int32))) (hR (sI h 1204 v0 ((hI h 1204 v0) + (1 : Int32))) 1206 v0) = 21) ∧ ((inA (sI h 1204 v0 ((hI h 1204 v0) + (1 : Int32))) (hR (sI h 1204 v0 ((hI h 1204 v0) + (1 : Int32))) 1206 v0) (((5 : Int32) * v1) + v2) = true) ∧ (((¬ (hAI (sI h 1204 v0 ((hI h 1204 v0) + (1 : Int32))) (hR (sI h 1204 v0 ((hI h 1204 v0) + (1 : Int32))) 1206 v0) ((((5 : Int32) * v1) + v2)).toNatClampNeg) = 0) → (hK (sAI (sI h 1204 v0 ((hI h 1204 v0) + (1 : Int32))) (hR (sI h 1204 v0 ((hI h 1204 v0) + (1 : Int32))) 1206 v0) ((((5 : Int32) * v1) + v2)).toNatClampNeg (0 : Int32)) v0 = 12) ∧ (WP d mX12_cut 92 [some (.ref v0), some (.int v1), some (.int v2)] [.ref (hR (sAI (sI h 1204 v0 ((hI h 1204 v0) + (1 : Int32))) (hR (sI h 1204 v0 ((hI h 1204 v0) + (1 : Int32))) 1206 v0) ((((5 : Int32) * v1) + v2)).toNatClampNeg (0 : Int32)) 1206 v0), .int (((5 : Int32) * v2) + v1), .ref (hR (sAI (sI h 1204 v0 ((hI h 1204 v0) + (1 : Int32))) (hR (sI h 1204 v0 ((hI h 1204 v0) + (1 : Int32))) 1206 v0) ((((5 : Int32) * v1) + v2)).toNatClampNeg (0 : Int32)) 1206 v0)] (sAI (sI h 1204 v0 ((hI h 1204 v0) + (1 : Int32))) (hR (sI h 1204 v0 ((hI h 1204 v0) + (1 : Int32))) 1206 v0) ((((5 : Int32) * v1) + v2)).toNatClampNeg (0 : Int32)) Q)) ∧ ((¬ (¬ (hAI (sI h 1204 v0 ((hI h 1204 v0) + (1 : Int32))) (hR (sI h 1204 v0 ((hI h 1204 v0) + (1 : Int32))) 1206 v0) ((((5 : Int32) * v1) + v2)).toNatClampNeg) = 0)) → (hK (sAI (sI h 1204 v0 ((hI h 1204 v0) + (1 : Int32))) (hR (sI h 1204 v0 ((hI h 1204 v0) + (1 : Int32))) 1206 v0) ((((5 : Int32) * v1) + v2)).toNatClampNeg (1 : Int32)) v0 = 12) ∧ (WP d mX12_cut 92 [some (.ref v0), some (.int v1), some (.int v2)] [.ref (hR (sAI (sI h 1204 v0 ((hI h 1204 v0) + (1 : Int32))) (hR (sI h 1204 v0 ((hI h 1204 v0) + (1 : Int32))) 1206 v0) ((((5 : Int32) * v1) + v2)).toNatClampNeg (1 : Int32)) 1206 v0), .int (((5 : Int32) * v2) + v1), .ref (hR (sAI (sI h 1204 v0 ((hI h 1204 v0) + (1 : Int32))) (hR (sI h 1204 v0 ((hI h 1204 v0) + (1 : Int32))) 1206 v0) ((((5 : Int32) * v1) + v2)).toNatClampNeg (1 : Int32)) 1206 v0)] (sAI (sI h 1204 v0 ((hI h 1204 v0) + (1 : Int32))) (hR (sI h 1204 v0 ((hI h 1204 v0) + (1 : Int32))) 1206 v0) ((((5 : Int32) * v1) + v2)).toNatClampNeg (1 : Int32)) Q))))))) ∧ ((¬ (¬ s0 = 0)) → Q (.inl (some (.int (0 : Int32)))) h)) : WP d mX12_cut 36 [some (.ref v0), some (.int v1), some (.int v2)] [.int s0] h Q := by
  refine w_if_ne (pc' := 41) dX12_cut_36 rfl rfl ⟨fun c => ?_, fun c => ?_⟩
  · replace k := k.1 c
    refine w_aload_n dX12_cut_41 rfl ?_
    refine w_dup dX12_cut_42 rfl ?_
    obtain ⟨g1, k⟩ := k
    refine w_getI dX12_cut_43 f_12_164 t_12_4 g1 ?_
    refine w_iconst dX12_cut_46 i1_1 ?_
    refine w_iadd dX12_cut_47 ?_
    refine w_putI dX12_cut_48 f_12_164 t_12_4 (pf_nf n_12_4) g1 ?_
    refine w_aload_n dX12_cut_51 rfl ?_
    obtain ⟨g2, k⟩ := k
    refine w_getR dX12_cut_52 f_12_22 t_12_6 g2 ?_
    refine w_iconst dX12_cut_55 i1_5 ?_
    refine w_iload_n dX12_cut_56 rfl ?_
    refine w_imul dX12_cut_57 ?_
    refine w_iload_n dX12_cut_58 rfl ?_
    refine w_iadd dX12_cut_59 ?_
    refine w_aload_n dX12_cut_60 rfl ?_
    refine w_getR dX12_cut_61 f_12_22 t_12_6 g2 ?_
    refine w_iconst dX12_cut_64 i1_5 ?_
    refine w_iload_n dX12_cut_65 rfl ?_
    refine w_imul dX12_cut_66 ?_
    refine w_iload_n dX12_cut_67 rfl ?_
    refine w_iadd dX12_cut_68 ?_
    obtain ⟨g3, k⟩ := k
    obtain ⟨g4, k⟩ := k
    refine w_baload dX12_cut_69 g3 g4 ?_
    refine w_if_ne (pc' := 77) dX12_cut_70 rfl rfl ⟨fun c => ?_, fun c => ?_⟩
    · replace k := k.1 c
      refine w_iconst dX12_cut_77 i1_0 ?_
      refine w_bastore dX12_cut_78 g3 g4 rfl ?_
      refine w_aload_n dX12_cut_79 rfl ?_
      obtain ⟨g5, k⟩ := k
      refine w_getR dX12_cut_80 f_12_22 t_12_6 g5 ?_
      refine w_iconst dX12_cut_83 i1_5 ?_
      refine w_iload_n dX12_cut_84 rfl ?_
      refine w_imul dX12_cut_85 ?_
      refine w_iload_n dX12_cut_86 rfl ?_
      refine w_iadd dX12_cut_87 ?_
      refine w_aload_n dX12_cut_88 rfl ?_
      refine w_getR dX12_cut_89 f_12_22 t_12_6 g5 ?_
      exact k
    · replace k := k.2 c
      refine w_iconst dX12_cut_73 i1_1 ?_
      refine w_goto (pc' := 78) dX12_cut_74 rfl rfl ?_
      refine w_bastore dX12_cut_78 g3 g4 rfl ?_
      refine w_aload_n dX12_cut_79 rfl ?_
      obtain ⟨g6, k⟩ := k
      refine w_getR dX12_cut_80 f_12_22 t_12_6 g6 ?_
      refine w_iconst dX12_cut_83 i1_5 ?_
      refine w_iload_n dX12_cut_84 rfl ?_
      refine w_imul dX12_cut_85 ?_
      refine w_iload_n dX12_cut_86 rfl ?_
      refine w_iadd dX12_cut_87 ?_
      refine w_aload_n dX12_cut_88 rfl ?_
      refine w_getR dX12_cut_89 f_12_22 t_12_6 g6 ?_
      exact k
  · replace k := k.2 c
    refine w_iconst dX12_cut_39 i1_0 ?_
    exact w_ireturn dX12_cut_40 rfl k
theorem bX12_cut_92 {d : Nat} {h : HP} {Q : Out → HP → Prop} {v0 : Nat} {v1 : Int32} {v2 : Int32} {s0 : Nat} {s1 : Int32} {s2 : Nat} (k : (hK h s0 = 21) ∧ ((inA h s0 (((5 : Int32) * v1) + v2) = true) ∧ ((hK h s2 = 21) ∧ ((inA h s2 s1 = true) ∧ ((isZ (hAI h s0 ((((5 : Int32) * v1) + v2)).toNatClampNeg) = true) ∧ ((hK (sAI h s2 (s1).toNatClampNeg (hAI h s0 ((((5 : Int32) * v1) + v2)).toNatClampNeg)) v0 = 12) ∧ ((hK (sAI h s2 (s1).toNatClampNeg (hAI h s0 ((((5 : Int32) * v1) + v2)).toNatClampNeg)) (hR (sAI h s2 (s1).toNatClampNeg (hAI h s0 ((((5 : Int32) * v1) + v2)).toNatClampNeg)) 1206 v0) = 21) ∧ ((inA (sAI h s2 (s1).toNatClampNeg (hAI h s0 ((((5 : Int32) * v1) + v2)).toNatClampNeg)) (hR (sAI h s2 (s1).toNatClampNeg (hAI h s0 ((((5 : Int32) * v1) + v2)).toNatClampNeg)) 1206 v0) (((5 : Int32) * v1) + v2) = true) ∧ ((isZ (hAI (sAI h s2 (s1).toNatClampNeg (hAI h s0 ((((5 : Int32) * v1) + v2)).toNatClampNeg)) (hR (sAI h s2 (s1).toNatClampNeg (hAI h s0 ((((5 : Int32) * v1) + v2)).toNatClampNeg)) 1206 v0) ((((5 : Int32) * v1) + v2)).toNatClampNeg) = true) ∧ (Q (.inl (some (.int (hAI (sAI h s2 (s1).toNatClampNeg (hAI h s0 ((((5 : Int32) * v1) + v2)).toNatClampNeg)) (hR (sAI h s2 (s1).toNatClampNeg (hAI h s0 ((((5 : Int32) * v1) + v2)).toNatClampNeg)) 1206 v0) ((((5 : Int32) * v1) + v2)).toNatClampNeg)))) (sAI h s2 (s1).toNatClampNeg (hAI h s0 ((((5 : Int32) * v1) + v2)).toNatClampNeg)))))))))))) : WP d mX12_cut 92 [some (.ref v0), some (.int v1), some (.int v2)] [.ref s0, .int s1, .ref s2] h Q := by
  refine w_iconst dX12_cut_92 i1_5 ?_
  refine w_iload_n dX12_cut_93 rfl ?_
  refine w_imul dX12_cut_94 ?_
  refine w_iload_n dX12_cut_95 rfl ?_
  refine w_iadd dX12_cut_96 ?_
  obtain ⟨g1, k⟩ := k
  obtain ⟨g2, k⟩ := k
  refine w_baload dX12_cut_97 g1 g2 ?_
  obtain ⟨g3, k⟩ := k
  obtain ⟨g4, k⟩ := k
  obtain ⟨g5, k⟩ := k
  refine w_bastore dX12_cut_98 g3 g4 g5 ?_
  refine w_aload_n dX12_cut_99 rfl ?_
  obtain ⟨g6, k⟩ := k
  refine w_getR dX12_cut_100 f_12_22 t_12_6 g6 ?_
  refine w_iconst dX12_cut_103 i1_5 ?_
  refine w_iload_n dX12_cut_104 rfl ?_
  refine w_imul dX12_cut_105 ?_
  refine w_iload_n dX12_cut_106 rfl ?_
  refine w_iadd dX12_cut_107 ?_
  obtain ⟨g7, k⟩ := k
  obtain ⟨g8, k⟩ := k
  refine w_baload dX12_cut_108 g7 g8 ?_
  obtain ⟨g9, k⟩ := k
  exact w_ireturn dX12_cut_109 g9 k
theorem bX12_rate_0 {d : Nat} {h : HP} {Q : Out → HP → Prop} {v0 : Nat} {v1 : Int32} {v2 : Int32} (k : (1 < v0) ∧ ((hK h v0 = 12) ∧ (WP d mX12_isMachine 0 [some (.ref v0), some (.int v1)] [] h (KK d mX12_rate mX12_isMachine 3 [some (.ref v0), some (.int v1), some (.int v2)] [.ref v0] Q)))) : WP (d + 1) mX12_rate 0 [some (.ref v0), some (.int v1), some (.int v2)] [] h Q := by
  refine w_aload_n dX12_rate_0 rfl ?_
  refine w_aload_n dX12_rate_1 rfl ?_
  refine w_iload_n dX12_rate_2 rfl ?_
  obtain ⟨g1, k⟩ := k
  obtain ⟨g2, k⟩ := k
  exact w_virt (as1 := [.int v1, .ref v0]) (as2 := [.ref v0, .int v1]) (rest := [.ref v0]) (lo2 := [some (.ref v0), some (.int v1)]) dX12_rate_3 c_12_181 rfl rfl rfl (Nat.le_of_ble_eq_true rfl) (Nat.le_of_ble_eq_true rfl) rfl (Nat.le_of_ble_eq_true rfl) rfl rfl g1 g2 k
theorem bX12_rate_6 {d : Nat} {h : HP} {Q : Out → HP → Prop} {v0 : Nat} {v1 : Int32} {v2 : Int32} {s0 : Int32} {s1 : Nat} (k : WP d mX12_in 0 [some (.int v2), some (.int (500 : Int32)), some (.int (1500 : Int32))] [] h (KK d mX12_rate mX12_in 13 [some (.ref v0), some (.int v1), some (.int v2)] [.int s0, .ref s1] Q)) : WP (d + 1) mX12_rate 6 [some (.ref v0), some (.int v1), some (.int v2)] [.int s0, .ref s1] h Q := by
  refine w_iload_n dX12_rate_6 rfl ?_
  refine w_sipush dX12_rate_7 i3_500 ?_
  refine w_sipush dX12_rate_10 i3_1500 ?_
  exact w_stat (as1 := [.int (1500 : Int32), .int (500 : Int32), .int v2]) (as2 := [.int v2, .int (500 : Int32), .int (1500 : Int32)]) (rest := [.int s0, .ref s1]) (lo2 := [some (.int v2), some (.int (500 : Int32)), some (.int (1500 : Int32))]) dX12_rate_13 c_12_154 rfl rfl rfl (Nat.le_of_ble_eq_true rfl) (Nat.le_of_ble_eq_true rfl) rfl (Nat.le_of_ble_eq_true rfl) rfl k
theorem bX12_rate_16 {d : Nat} {h : HP} {Q : Out → HP → Prop} {v0 : Nat} {v1 : Int32} {v2 : Int32} {s0 : Int32} {s1 : Int32} {s2 : Nat} (k : (1 < s2) ∧ ((hK h s2 = 12) ∧ (WP d mX12_goes 0 [some (.ref s2), some (.int s1), some (.int s0), some (.int (1 : Int32))] [] h (KK d mX12_rate mX12_goes 17 [some (.ref v0), some (.int v1), some (.int v2)] [] Q)))) : WP (d + 1) mX12_rate 16 [some (.ref v0), some (.int v1), some (.int v2)] [.int s0, .int s1, .ref s2] h Q := by
  refine w_iconst dX12_rate_16 i1_1 ?_
  obtain ⟨g1, k⟩ := k
  obtain ⟨g2, k⟩ := k
  exact w_virt (as1 := [.int (1 : Int32), .int s0, .int s1, .ref s2]) (as2 := [.ref s2, .int s1, .int s0, .int (1 : Int32)]) (rest := []) (lo2 := [some (.ref s2), some (.int s1), some (.int s0), some (.int (1 : Int32))]) dX12_rate_17 c_12_173 rfl rfl rfl (Nat.le_of_ble_eq_true rfl) (Nat.le_of_ble_eq_true rfl) rfl (Nat.le_of_ble_eq_true rfl) rfl rfl g1 g2 k
theorem bX12_rate_20 {d : Nat} {h : HP} {Q : Out → HP → Prop} {v0 : Nat} {v1 : Int32} {v2 : Int32} {s0 : Int32} (k : ((¬ s0 = 0) → (hK h v0 = 12) ∧ ((hK (sI h 1204 v0 ((hI h 1204 v0) + (1 : Int32))) v0 = 12) ∧ ((nn32 (FP.fdiv (FP.i2f v2) (1148846080 : UInt32)) = true) ∧ ((hK (sI h 1204 v0 ((hI h 1204 v0) + (1 : Int32))) (hR (sI h 1204 v0 ((hI h 1204 v0) + (1 : Int32))) 1208 v0) = 22) ∧ ((inA (sI h 1204 v0 ((hI h 1204 v0) + (1 : Int32))) (hR (sI h 1204 v0 ((hI h 1204 v0) + (1 : Int32))) 1208 v0) v1 = true) ∧ ((hK (sAF (sI h 1204 v0 ((hI h 1204 v0) + (1 : Int32))) (hR (sI h 1204 v0 ((hI h 1204 v0) + (1 : Int32))) 1208 v0) (v1).toNatClampNeg (FP.fdiv (FP.i2f v2) (1148846080 : UInt32))) v0 = 12) ∧ ((hK (sAF (sI h 1204 v0 ((hI h 1204 v0) + (1 : Int32))) (hR (sI h 1204 v0 ((hI h 1204 v0) + (1 : Int32))) 1208 v0) (v1).toNatClampNeg (FP.fdiv (FP.i2f v2) (1148846080 : UInt32))) (hR (sAF (sI h 1204 v0 ((hI h 1204 v0) + (1 : Int32))) (hR (sI h 1204 v0 ((hI h 1204 v0) + (1 : Int32))) 1208 v0) (v1).toNatClampNeg (FP.fdiv (FP.i2f v2) (1148846080 : UInt32))) 1207 v0) = 22) ∧ ((inA (sAF (sI h 1204 v0 ((hI h 1204 v0) + (1 : Int32))) (hR (sI h 1204 v0 ((hI h 1204 v0) + (1 : Int32))) 1208 v0) (v1).toNatClampNeg (FP.fdiv (FP.i2f v2) (1148846080 : UInt32))) (hR (sAF (sI h 1204 v0 ((hI h 1204 v0) + (1 : Int32))) (hR (sI h 1204 v0 ((hI h 1204 v0) + (1 : Int32))) 1208 v0) (v1).toNatClampNeg (FP.fdiv (FP.i2f v2) (1148846080 : UInt32))) 1207 v0) v1 = true) ∧ (WP d mX12_rate 52 [some (.ref v0), some (.int v1), some (.int v2)] [.float (hAF (sAF (sI h 1204 v0 ((hI h 1204 v0) + (1 : Int32))) (hR (sI h 1204 v0 ((hI h 1204 v0) + (1 : Int32))) 1208 v0) (v1).toNatClampNeg (FP.fdiv (FP.i2f v2) (1148846080 : UInt32))) (hR (sAF (sI h 1204 v0 ((hI h 1204 v0) + (1 : Int32))) (hR (sI h 1204 v0 ((hI h 1204 v0) + (1 : Int32))) 1208 v0) (v1).toNatClampNeg (FP.fdiv (FP.i2f v2) (1148846080 : UInt32))) 1207 v0) (v1).toNatClampNeg)] (sAF (sI h 1204 v0 ((hI h 1204 v0) + (1 : Int32))) (hR (sI h 1204 v0 ((hI h 1204 v0) + (1 : Int32))) 1208 v0) (v1).toNatClampNeg (FP.fdiv (FP.i2f v2) (1148846080 : UInt32))) Q))))))))) ∧ ((¬ (¬ s0 = 0)) → Q (.inl (some (.float FP.fconst0))) h)) : WP d mX12_rate 20 [some (.ref v0), some (.int v1), some (.int v2)] [.int s0] h Q := by
  refine w_if_ne (pc' := 25) dX12_rate_20 rfl rfl ⟨fun c => ?_, fun c => ?_⟩
  · replace k := k.1 c
    refine w_aload_n dX12_rate_25 rfl ?_
    refine w_dup dX12_rate_26 rfl ?_
    obtain ⟨g1, k⟩ := k
    refine w_getI dX12_rate_27 f_12_164 t_12_4 g1 ?_
    refine w_iconst dX12_rate_30 i1_1 ?_
    refine w_iadd dX12_rate_31 ?_
    refine w_putI dX12_rate_32 f_12_164 t_12_4 (pf_nf n_12_4) g1 ?_
    refine w_aload_n dX12_rate_35 rfl ?_
    obtain ⟨g2, k⟩ := k
    refine w_getR dX12_rate_36 f_12_29 t_12_8 g2 ?_
    refine w_iload_n dX12_rate_39 rfl ?_
    refine w_iload_n dX12_rate_40 rfl ?_
    refine w_i2f dX12_rate_41 ?_
    refine w_ldc dX12_rate_42 l_12_190 ?_
    obtain ⟨g3, k⟩ := k
    refine w_fdiv dX12_rate_44 g3 ?_
    obtain ⟨g4, k⟩ := k
    obtain ⟨g5, k⟩ := k
    refine w_fastore dX12_rate_45 g4 g5 ?_
    refine w_aload_n dX12_rate_46 rfl ?_
    obtain ⟨g6, k⟩ := k
    refine w_getR dX12_rate_47 f_12_25 t_12_7 g6 ?_
    refine w_iload_n dX12_rate_50 rfl ?_
    obtain ⟨g7, k⟩ := k
    obtain ⟨g8, k⟩ := k
    refine w_faload dX12_rate_51 g7 g8 ?_
    exact k
  · replace k := k.2 c
    refine w_fconst0 dX12_rate_23 ?_
    exact w_freturn dX12_rate_24 rfl k
theorem bX12_rate_52 {d : Nat} {h : HP} {Q : Out → HP → Prop} {v0 : Nat} {v1 : Int32} {v2 : Int32} {s0 : UInt32} (k : Q (.inl (some (.float s0))) h) : WP d mX12_rate 52 [some (.ref v0), some (.int v1), some (.int v2)] [.float s0] h Q := by
  exact w_freturn dX12_rate_52 rfl k
theorem bX12_spans_0 {d : Nat} {h : HP} {Q : Out → HP → Prop} {v0 : Nat} {v1 : Int32} {v2 : Int32} (k : WP d mX12_in 0 [some (.int v1), some (.int (1 : Int32)), some (.int (1000 : Int32))] [] h (KK d mX12_spans mX12_in 6 [some (.ref v0), some (.int v1), some (.int v2)] [.ref v0] Q)) : WP (d + 1) mX12_spans 0 [some (.ref v0), some (.int v1), some (.int v2)] [] h Q := by
  refine w_aload_n dX12_spans_0 rfl ?_
  refine w_iload_n dX12_spans_1 rfl ?_
  refine w_iconst dX12_spans_2 i1_1 ?_
  refine w_sipush dX12_spans_3 i3_1000 ?_
  exact w_stat (as1 := [.int (1000 : Int32), .int (1 : Int32), .int v1]) (as2 := [.int v1, .int (1 : Int32), .int (1000 : Int32)]) (rest := [.ref v0]) (lo2 := [some (.int v1), some (.int (1 : Int32)), some (.int (1000 : Int32))]) dX12_spans_6 c_12_154 rfl rfl rfl (Nat.le_of_ble_eq_true rfl) (Nat.le_of_ble_eq_true rfl) rfl (Nat.le_of_ble_eq_true rfl) rfl k
theorem bX12_spans_9 {d : Nat} {h : HP} {Q : Out → HP → Prop} {v0 : Nat} {v1 : Int32} {v2 : Int32} {s0 : Int32} {s1 : Nat} (k : ((s0 = 0) → (1 < s1) ∧ ((hK h s1 = 12) ∧ (WP d mX12_goes 0 [some (.ref s1), some (.int (0 : Int32)), some (.int (1 : Int32)), some (.int (1 : Int32))] [] h (KK d mX12_spans mX12_goes 29 [some (.ref v0), some (.int v1), some (.int v2)] [] Q)))) ∧ ((¬ (s0 = 0)) → WP d mX12_in 0 [some (.int v2), some (.int (0 : Int32)), some (.int (90 : Int32))] [] h (KK d mX12_spans mX12_in 16 [some (.ref v0), some (.int v1), some (.int v2)] [.ref s1] Q))) : WP (d + 1) mX12_spans 9 [some (.ref v0), some (.int v1), some (.int v2)] [.int s0, .ref s1] h Q := by
  refine w_if_eq (pc' := 26) dX12_spans_9 rfl rfl ⟨fun c => ?_, fun c => ?_⟩
  · replace k := k.1 c
    refine w_iconst dX12_spans_26 i1_0 ?_
    refine w_iconst dX12_spans_27 i1_1 ?_
    refine w_iconst dX12_spans_28 i1_1 ?_
    obtain ⟨g1, k⟩ := k
    obtain ⟨g2, k⟩ := k
    exact w_virt (as1 := [.int (1 : Int32), .int (1 : Int32), .int (0 : Int32), .ref s1]) (as2 := [.ref s1, .int (0 : Int32), .int (1 : Int32), .int (1 : Int32)]) (rest := []) (lo2 := [some (.ref s1), some (.int (0 : Int32)), some (.int (1 : Int32)), some (.int (1 : Int32))]) dX12_spans_29 c_12_173 rfl rfl rfl (Nat.le_of_ble_eq_true rfl) (Nat.le_of_ble_eq_true rfl) rfl (Nat.le_of_ble_eq_true rfl) rfl rfl g1 g2 k
  · replace k := k.2 c
    refine w_iload_n dX12_spans_12 rfl ?_
    refine w_iconst dX12_spans_13 i1_0 ?_
    refine w_bipush dX12_spans_14 i2_90 ?_
    exact w_stat (as1 := [.int (90 : Int32), .int (0 : Int32), .int v2]) (as2 := [.int v2, .int (0 : Int32), .int (90 : Int32)]) (rest := [.ref s1]) (lo2 := [some (.int v2), some (.int (0 : Int32)), some (.int (90 : Int32))]) dX12_spans_16 c_12_154 rfl rfl rfl (Nat.le_of_ble_eq_true rfl) (Nat.le_of_ble_eq_true rfl) rfl (Nat.le_of_ble_eq_true rfl) rfl k
theorem bX12_spans_19 {d : Nat} {h : HP} {Q : Out → HP → Prop} {v0 : Nat} {v1 : Int32} {v2 : Int32} {s0 : Int32} {s1 : Nat} (k : ((s0 = 0) → (1 < s1) ∧ ((hK h s1 = 12) ∧ (WP d mX12_goes 0 [some (.ref s1), some (.int (0 : Int32)), some (.int (1 : Int32)), some (.int (1 : Int32))] [] h (KK d mX12_spans mX12_goes 29 [some (.ref v0), some (.int v1), some (.int v2)] [] Q)))) ∧ ((¬ (s0 = 0)) → (1 < s1) ∧ ((hK h s1 = 12) ∧ (WP d mX12_goes 0 [some (.ref s1), some (.int (1 : Int32)), some (.int (1 : Int32)), some (.int (1 : Int32))] [] h (KK d mX12_spans mX12_goes 29 [some (.ref v0), some (.int v1), some (.int v2)] [] Q))))) : WP (d + 1) mX12_spans 19 [some (.ref v0), some (.int v1), some (.int v2)] [.int s0, .ref s1] h Q := by
  refine w_if_eq (pc' := 26) dX12_spans_19 rfl rfl ⟨fun c => ?_, fun c => ?_⟩
  · replace k := k.1 c
    refine w_iconst dX12_spans_26 i1_0 ?_
    refine w_iconst dX12_spans_27 i1_1 ?_
    refine w_iconst dX12_spans_28 i1_1 ?_
    obtain ⟨g1, k⟩ := k
    obtain ⟨g2, k⟩ := k
    exact w_virt (as1 := [.int (1 : Int32), .int (1 : Int32), .int (0 : Int32), .ref s1]) (as2 := [.ref s1, .int (0 : Int32), .int (1 : Int32), .int (1 : Int32)]) (rest := []) (lo2 := [some (.ref s1), some (.int (0 : Int32)), some (.int (1 : Int32)), some (.int (1 : Int32))]) dX12_spans_29 c_12_173 rfl rfl rfl (Nat.le_of_ble_eq_true rfl) (Nat.le_of_ble_eq_true rfl) rfl (Nat.le_of_ble_eq_true rfl) rfl rfl g1 g2 k
  · replace k := k.2 c
    refine w_iconst dX12_spans_22 i1_1 ?_
    refine w_goto (pc' := 27) dX12_spans_23 rfl rfl ?_
    refine w_iconst dX12_spans_27 i1_1 ?_
    refine w_iconst dX12_spans_28 i1_1 ?_
    obtain ⟨g3, k⟩ := k
    obtain ⟨g4, k⟩ := k
    exact w_virt (as1 := [.int (1 : Int32), .int (1 : Int32), .int (1 : Int32), .ref s1]) (as2 := [.ref s1, .int (1 : Int32), .int (1 : Int32), .int (1 : Int32)]) (rest := []) (lo2 := [some (.ref s1), some (.int (1 : Int32)), some (.int (1 : Int32)), some (.int (1 : Int32))]) dX12_spans_29 c_12_173 rfl rfl rfl (Nat.le_of_ble_eq_true rfl) (Nat.le_of_ble_eq_true rfl) rfl (Nat.le_of_ble_eq_true rfl) rfl rfl g3 g4 k
theorem bX12_spans_32 {d : Nat} {h : HP} {Q : Out → HP → Prop} {v0 : Nat} {v1 : Int32} {v2 : Int32} {s0 : Int32} (k : ((s0 = 0) → Q (.inl none) h) ∧ ((¬ (s0 = 0)) → (hK h v0 = 12) ∧ ((nn32 (FP.fdiv (FP.i2f v1) (1092616192 : UInt32)) = true) ∧ ((hK (sI h 1204 v0 ((hI h 1204 v0) + (1 : Int32))) v0 = 12) ∧ ((nn32 (FP.fdiv (FP.i2f v2) (1120403456 : UInt32)) = true) ∧ ((hK (sF (sI h 1204 v0 ((hI h 1204 v0) + (1 : Int32))) 1202 v0 (FP.fdiv (FP.i2f v1) (1092616192 : UInt32))) v0 = 12) ∧ (Q (.inl none) (sF (sF (sI h 1204 v0 ((hI h 1204 v0) + (1 : Int32))) 1202 v0 (FP.fdiv (FP.i2f v1) (1092616192 : UInt32))) 1203 v0 (FP.fdiv (FP.i2f v2) (1120403456 : UInt32)))))))))) : WP d mX12_spans 32 [some (.ref v0), some (.int v1), some (.int v2)] [.int s0] h Q := by
  refine w_if_eq (pc' := 63) dX12_spans_32 rfl rfl ⟨fun c => ?_, fun c => ?_⟩
  · replace k := k.1 c
    exact w_return dX12_spans_63 rfl k
  · replace k := k.2 c
    refine w_aload_n dX12_spans_35 rfl ?_
    refine w_dup dX12_spans_36 rfl ?_
    obtain ⟨g1, k⟩ := k
    refine w_getI dX12_spans_37 f_12_164 t_12_4 g1 ?_
    refine w_iconst dX12_spans_40 i1_1 ?_
    refine w_iadd dX12_spans_41 ?_
    refine w_putI dX12_spans_42 f_12_164 t_12_4 (pf_nf n_12_4) g1 ?_
    refine w_aload_n dX12_spans_45 rfl ?_
    refine w_iload_n dX12_spans_46 rfl ?_
    refine w_i2f dX12_spans_47 ?_
    refine w_ldc dX12_spans_48 l_12_13 ?_
    obtain ⟨g2, k⟩ := k
    refine w_fdiv dX12_spans_50 g2 ?_
    obtain ⟨g3, k⟩ := k
    refine w_putF dX12_spans_51 f_12_14 t_12_2 (pf_nf n_12_2) g3 ?_
    refine w_aload_n dX12_spans_54 rfl ?_
    refine w_iload_n dX12_spans_55 rfl ?_
    refine w_i2f dX12_spans_56 ?_
    refine w_ldc dX12_spans_57 l_12_191 ?_
    obtain ⟨g4, k⟩ := k
    refine w_fdiv dX12_spans_59 g4 ?_
    obtain ⟨g5, k⟩ := k
    refine w_putF dX12_spans_60 f_12_161 t_12_3 (pf_nf n_12_3) g5 ?_
    exact w_return dX12_spans_63 rfl k
theorem bX12_pass_0 {d : Nat} {h : HP} {Q : Out → HP → Prop} {v0 : Nat} {v1 : Int32} {u2 : Option Value} {u3 : Option Value} (k : WP d mX12_in 0 [some (.int v1), some (.int (1 : Int32)), some (.int (1000 : Int32))] [] h (KK d mX12_pass mX12_in 6 [some (.ref v0), some (.int v1), u2, u3] [.ref v0] Q)) : WP (d + 1) mX12_pass 0 [some (.ref v0), some (.int v1), u2, u3] [] h Q := by
  refine w_aload_n dX12_pass_0 rfl ?_
  refine w_iload_n dX12_pass_1 rfl ?_
  refine w_iconst dX12_pass_2 i1_1 ?_
  refine w_sipush dX12_pass_3 i3_1000 ?_
  exact w_stat (as1 := [.int (1000 : Int32), .int (1 : Int32), .int v1]) (as2 := [.int v1, .int (1 : Int32), .int (1000 : Int32)]) (rest := [.ref v0]) (lo2 := [some (.int v1), some (.int (1 : Int32)), some (.int (1000 : Int32))]) dX12_pass_6 c_12_154 rfl rfl rfl (Nat.le_of_ble_eq_true rfl) (Nat.le_of_ble_eq_true rfl) rfl (Nat.le_of_ble_eq_true rfl) rfl k
theorem bX12_pass_9 {d : Nat} {h : HP} {Q : Out → HP → Prop} {v0 : Nat} {v1 : Int32} {u2 : Option Value} {u3 : Option Value} {s0 : Int32} {s1 : Nat} (k : (1 < s1) ∧ ((hK h s1 = 12) ∧ (WP d mX12_goes 0 [some (.ref s1), some (.int s0), some (.int (1 : Int32)), some (.int (1 : Int32))] [] h (KK d mX12_pass mX12_goes 11 [some (.ref v0), some (.int v1), u2, u3] [] Q)))) : WP (d + 1) mX12_pass 9 [some (.ref v0), some (.int v1), u2, u3] [.int s0, .ref s1] h Q := by
  refine w_iconst dX12_pass_9 i1_1 ?_
  refine w_iconst dX12_pass_10 i1_1 ?_
  obtain ⟨g1, k⟩ := k
  obtain ⟨g2, k⟩ := k
  exact w_virt (as1 := [.int (1 : Int32), .int (1 : Int32), .int s0, .ref s1]) (as2 := [.ref s1, .int s0, .int (1 : Int32), .int (1 : Int32)]) (rest := []) (lo2 := [some (.ref s1), some (.int s0), some (.int (1 : Int32)), some (.int (1 : Int32))]) dX12_pass_11 c_12_173 rfl rfl rfl (Nat.le_of_ble_eq_true rfl) (Nat.le_of_ble_eq_true rfl) rfl (Nat.le_of_ble_eq_true rfl) rfl rfl g1 g2 k
theorem bX12_pass_14 {d : Nat} {h : HP} {Q : Out → HP → Prop} {v0 : Nat} {v1 : Int32} {u2 : Option Value} {u3 : Option Value} {s0 : Int32} (k : ((¬ s0 = 0) → (hK h v0 = 12) ∧ ((nn32 (FP.fdiv (FP.i2f v1) (1092616192 : UInt32)) = true) ∧ ((hK (sI h 1204 v0 ((hI h 1204 v0) + (1 : Int32))) v0 = 12) ∧ ((nn32 (FP.fadd (hF (sI h 1204 v0 ((hI h 1204 v0) + (1 : Int32))) 1201 v0) (FP.fdiv (FP.i2f v1) (1092616192 : UInt32))) = true) ∧ (WP d mX12_pass 47 [some (.ref v0), some (.int v1), some (.float (FP.fdiv (FP.i2f v1) (1092616192 : UInt32))), some (.int (0 : Int32))] [] (sF (sI h 1204 v0 ((hI h 1204 v0) + (1 : Int32))) 1201 v0 (FP.fadd (hF (sI h 1204 v0 ((hI h 1204 v0) + (1 : Int32))) 1201 v0) (FP.fdiv (FP.i2f v1) (1092616192 : UInt32)))) Q))))) ∧ ((¬ (¬ s0 = 0)) → Q (.inl (some (.float FP.fconst0))) h)) : WP d mX12_pass 14 [some (.ref v0), some (.int v1), u2, u3] [.int s0] h Q := by
  refine w_if_ne (pc' := 19) dX12_pass_14 rfl rfl ⟨fun c => ?_, fun c => ?_⟩
  · replace k := k.1 c
    refine w_aload_n dX12_pass_19 rfl ?_
    refine w_dup dX12_pass_20 rfl ?_
    obtain ⟨g1, k⟩ := k
    refine w_getI dX12_pass_21 f_12_164 t_12_4 g1 ?_
    refine w_iconst dX12_pass_24 i1_1 ?_
    refine w_iadd dX12_pass_25 ?_
    refine w_putI dX12_pass_26 f_12_164 t_12_4 (pf_nf n_12_4) g1 ?_
    refine w_iload_n dX12_pass_29 rfl ?_
    refine w_i2f dX12_pass_30 ?_
    refine w_ldc dX12_pass_31 l_12_13 ?_
    obtain ⟨g2, k⟩ := k
    refine w_fdiv dX12_pass_33 g2 ?_
    refine w_fstore_n (lo' := [some (.ref v0), some (.int v1), some (.float (FP.fdiv (FP.i2f v1) (1092616192 : UInt32))), u3]) dX12_pass_34 (ltQ rfl) rfl ?_
    refine w_aload_n dX12_pass_35 rfl ?_
    refine w_aload_n dX12_pass_36 rfl ?_
    obtain ⟨g3, k⟩ := k
    refine w_getF dX12_pass_37 f_12_158 t_12_1 g3 ?_
    refine w_fload_n dX12_pass_40 rfl ?_
    obtain ⟨g4, k⟩ := k
    refine w_fadd dX12_pass_41 g4 ?_
    refine w_putF dX12_pass_42 f_12_158 t_12_1 (pf_nf n_12_1) g3 ?_
    refine w_iconst dX12_pass_45 i1_0 ?_
    refine w_istore_n (lo' := [some (.ref v0), some (.int v1), some (.float (FP.fdiv (FP.i2f v1) (1092616192 : UInt32))), some (.int (0 : Int32))]) dX12_pass_46 (ltQ rfl) rfl ?_
    exact k
  · replace k := k.2 c
    refine w_fconst0 dX12_pass_17 ?_
    exact w_freturn dX12_pass_18 rfl k
theorem bX12_pass_47 {d : Nat} {h : HP} {Q : Out → HP → Prop} {v0 : Nat} {v1 : Int32} {v2 : UInt32} {v3 : Int32} (k : (hK h v0 = 12) ∧ ((((hI h 1200 v0) ≤ v3) → Q (.inl (some (.float (hF h 1201 v0)))) h) ∧ ((¬ ((hI h 1200 v0) ≤ v3)) → (hK h (hR h 1207 v0) = 22) ∧ ((inA h (hR h 1207 v0) v3 = true) ∧ ((hK h (hR h 1208 v0) = 22) ∧ ((inA h (hR h 1208 v0) v3 = true) ∧ ((nn32 (FP.fmul v2 (hAF h (hR h 1208 v0) (v3).toNatClampNeg)) = true) ∧ ((nn32 (FP.fadd (hAF h (hR h 1207 v0) (v3).toNatClampNeg) (FP.fmul v2 (hAF h (hR h 1208 v0) (v3).toNatClampNeg))) = true) ∧ (WP d mX12_pass 47 [some (.ref v0), some (.int v1), some (.float v2), some (.int (v3 + (1 : Int32)))] [] (sAF h (hR h 1207 v0) (v3).toNatClampNeg (FP.fadd (hAF h (hR h 1207 v0) (v3).toNatClampNeg) (FP.fmul v2 (hAF h (hR h 1208 v0) (v3).toNatClampNeg)))) Q))))))))) : WP d mX12_pass 47 [some (.ref v0), some (.int v1), some (.float v2), some (.int v3)] [] h Q := by
  refine w_iload_n dX12_pass_47 rfl ?_
  refine w_aload_n dX12_pass_48 rfl ?_
  obtain ⟨g1, k⟩ := k
  refine w_getI dX12_pass_49 f_12_7 t_12_0 g1 ?_
  refine w_ic_ge (pc' := 82) dX12_pass_52 rfl rfl ⟨fun c => ?_, fun c => ?_⟩
  · replace k := k.1 c
    refine w_aload_n dX12_pass_82 rfl ?_
    refine w_getF dX12_pass_83 f_12_158 t_12_1 g1 ?_
    exact w_freturn dX12_pass_86 rfl k
  · replace k := k.2 c
    refine w_aload_n dX12_pass_55 rfl ?_
    refine w_getR dX12_pass_56 f_12_25 t_12_7 g1 ?_
    refine w_iload_n dX12_pass_59 rfl ?_
    refine w_aload_n dX12_pass_60 rfl ?_
    refine w_getR dX12_pass_61 f_12_25 t_12_7 g1 ?_
    refine w_iload_n dX12_pass_64 rfl ?_
    obtain ⟨g2, k⟩ := k
    obtain ⟨g3, k⟩ := k
    refine w_faload dX12_pass_65 g2 g3 ?_
    refine w_fload_n dX12_pass_66 rfl ?_
    refine w_aload_n dX12_pass_67 rfl ?_
    refine w_getR dX12_pass_68 f_12_29 t_12_8 g1 ?_
    refine w_iload_n dX12_pass_71 rfl ?_
    obtain ⟨g4, k⟩ := k
    obtain ⟨g5, k⟩ := k
    refine w_faload dX12_pass_72 g4 g5 ?_
    obtain ⟨g6, k⟩ := k
    refine w_fmul dX12_pass_73 g6 ?_
    obtain ⟨g7, k⟩ := k
    refine w_fadd dX12_pass_74 g7 ?_
    refine w_fastore dX12_pass_75 g2 g3 ?_
    refine w_iinc (lo' := [some (.ref v0), some (.int v1), some (.float v2), some (.int (v3 + (1 : Int32)))]) dX12_pass_76 rfl i1_1 rfl ?_
    refine w_goto (pc' := 47) dX12_pass_79 rfl rfl ?_
    exact k
theorem bX12_sends_0 {d : Nat} {h : HP} {Q : Out → HP → Prop} {v0 : Nat} {v1 : Int32} {v2 : Int32} {v3 : Int32} {v4 : Int32} {u5 : Option Value} {u6 : Option Value} (k : (hK h v0 = 12) ∧ ((hK (sI h 1240 v0 ((hI h 1240 v0) + (1 : Int32))) v0 = 12) ∧ ((((60 : Int32) ≤ (hI (sI h 1240 v0 ((hI h 1240 v0) + (1 : Int32))) 1239 v0)) → ((¬ (-1 : Int32) = (-1 : Int32)) → WP d mX12_sends 43 [some (.ref v0), some (.int v1), some (.int v2), some (.int v3), some (.int v4), some (.int (-1 : Int32)), some (.int (0 : Int32))] [] (sI h 1240 v0 ((hI h 1240 v0) + (1 : Int32))) Q) ∧ ((¬ (¬ (-1 : Int32) = (-1 : Int32))) → Q (.inl (some (.int (-1 : Int32)))) (sI h 1240 v0 ((hI h 1240 v0) + (1 : Int32))))) ∧ ((¬ ((60 : Int32) ≤ (hI (sI h 1240 v0 ((hI h 1240 v0) + (1 : Int32))) 1239 v0))) → ((¬ ((24 : Int32) * (hI (sI h 1240 v0 ((hI h 1240 v0) + (1 : Int32))) 1239 v0)) = (-1 : Int32)) → WP d mX12_sends 43 [some (.ref v0), some (.int v1), some (.int v2), some (.int v3), some (.int v4), some (.int ((24 : Int32) * (hI (sI h 1240 v0 ((hI h 1240 v0) + (1 : Int32))) 1239 v0))), some (.int (0 : Int32))] [] (sI h 1240 v0 ((hI h 1240 v0) + (1 : Int32))) Q) ∧ ((¬ (¬ ((24 : Int32) * (hI (sI h 1240 v0 ((hI h 1240 v0) + (1 : Int32))) 1239 v0)) = (-1 : Int32))) → Q (.inl (some (.int (-1 : Int32)))) (sI h 1240 v0 ((hI h 1240 v0) + (1 : Int32)))))))) : WP d mX12_sends 0 [some (.ref v0), some (.int v1), some (.int v2), some (.int v3), some (.int v4), u5, u6] [] h Q := by
  refine w_aload_n dX12_sends_0 rfl ?_
  refine w_dup dX12_sends_1 rfl ?_
  obtain ⟨g1, k⟩ := k
  refine w_getI dX12_sends_2 f_12_192 t_12_40 g1 ?_
  refine w_iconst dX12_sends_5 i1_1 ?_
  refine w_iadd dX12_sends_6 ?_
  refine w_putI dX12_sends_7 f_12_192 t_12_40 (pf_nf n_12_40) g1 ?_
  refine w_aload_n dX12_sends_10 rfl ?_
  obtain ⟨g2, k⟩ := k
  refine w_getI dX12_sends_11 f_12_167 t_12_39 g2 ?_
  refine w_bipush dX12_sends_14 i2_60 ?_
  refine w_ic_ge (pc' := 29) dX12_sends_16 rfl rfl ⟨fun c => ?_, fun c => ?_⟩
  · replace k := k.1 c
    refine w_iconst dX12_sends_29 i1_m1 ?_
    refine w_istore (lo' := [some (.ref v0), some (.int v1), some (.int v2), some (.int v3), some (.int v4), some (.int (-1 : Int32)), u6]) dX12_sends_30 (ltQ rfl) rfl ?_
    refine w_iload dX12_sends_32 rfl ?_
    refine w_iconst dX12_sends_34 i1_m1 ?_
    refine w_ic_ne (pc' := 40) dX12_sends_35 rfl rfl ⟨fun c => ?_, fun c => ?_⟩
    · replace k := k.1 c
      refine w_iconst dX12_sends_40 i1_0 ?_
      refine w_istore (lo' := [some (.ref v0), some (.int v1), some (.int v2), some (.int v3), some (.int v4), some (.int (-1 : Int32)), some (.int (0 : Int32))]) dX12_sends_41 (ltQ rfl) rfl ?_
      exact k
    · replace k := k.2 c
      refine w_iconst dX12_sends_38 i1_m1 ?_
      exact w_ireturn dX12_sends_39 rfl k
  · replace k := k.2 c
    refine w_bipush dX12_sends_19 i2_24 ?_
    refine w_aload_n dX12_sends_21 rfl ?_
    refine w_getI dX12_sends_22 f_12_167 t_12_39 g2 ?_
    refine w_imul dX12_sends_25 ?_
    refine w_goto (pc' := 30) dX12_sends_26 rfl rfl ?_
    refine w_istore (lo' := [some (.ref v0), some (.int v1), some (.int v2), some (.int v3), some (.int v4), some (.int ((24 : Int32) * (hI (sI h 1240 v0 ((hI h 1240 v0) + (1 : Int32))) 1239 v0))), u6]) dX12_sends_30 (ltQ rfl) rfl ?_
    refine w_iload dX12_sends_32 rfl ?_
    refine w_iconst dX12_sends_34 i1_m1 ?_
    refine w_ic_ne (pc' := 40) dX12_sends_35 rfl rfl ⟨fun c => ?_, fun c => ?_⟩
    · replace k := k.1 c
      refine w_iconst dX12_sends_40 i1_0 ?_
      refine w_istore (lo' := [some (.ref v0), some (.int v1), some (.int v2), some (.int v3), some (.int v4), some (.int ((24 : Int32) * (hI (sI h 1240 v0 ((hI h 1240 v0) + (1 : Int32))) 1239 v0))), some (.int (0 : Int32))]) dX12_sends_41 (ltQ rfl) rfl ?_
      exact k
    · replace k := k.2 c
      refine w_iconst dX12_sends_38 i1_m1 ?_
      exact w_ireturn dX12_sends_39 rfl k
theorem bX12_sends_43 {d : Nat} {h : HP} {Q : Out → HP → Prop} {v0 : Nat} {v1 : Int32} {v2 : Int32} {v3 : Int32} {v4 : Int32} {v5 : Int32} {v6 : Int32} (k : (((24 : Int32) ≤ v6) → (hK h v0 = 12) ∧ ((hK h (hR h 1238 v0) = 22) ∧ ((inA h (hR h 1238 v0) (hI h 1239 v0) = true) ∧ ((hK (sAF h (hR h 1238 v0) ((hI h 1239 v0)).toNatClampNeg FP.fconst0) v0 = 12) ∧ ((hK (sAF h (hR h 1238 v0) ((hI h 1239 v0)).toNatClampNeg FP.fconst0) (hR (sAF h (hR h 1238 v0) ((hI h 1239 v0)).toNatClampNeg FP.fconst0) 1237 v0) = 20) ∧ ((inA (sAF h (hR h 1238 v0) ((hI h 1239 v0)).toNatClampNeg FP.fconst0) (hR (sAF h (hR h 1238 v0) ((hI h 1239 v0)).toNatClampNeg FP.fconst0) 1237 v0) v5 = true) ∧ ((hK (sAI (sAF h (hR h 1238 v0) ((hI h 1239 v0)).toNatClampNeg FP.fconst0) (hR (sAF h (hR h 1238 v0) ((hI h 1239 v0)).toNatClampNeg FP.fconst0) 1237 v0) (v5).toNatClampNeg v1) v0 = 12) ∧ ((hK (sAI (sAF h (hR h 1238 v0) ((hI h 1239 v0)).toNatClampNeg FP.fconst0) (hR (sAF h (hR h 1238 v0) ((hI h 1239 v0)).toNatClampNeg FP.fconst0) 1237 v0) (v5).toNatClampNeg v1) (hR (sAI (sAF h (hR h 1238 v0) ((hI h 1239 v0)).toNatClampNeg FP.fconst0) (hR (sAF h (hR h 1238 v0) ((hI h 1239 v0)).toNatClampNeg FP.fconst0) 1237 v0) (v5).toNatClampNeg v1) 1237 v0) = 20) ∧ ((inA (sAI (sAF h (hR h 1238 v0) ((hI h 1239 v0)).toNatClampNeg FP.fconst0) (hR (sAF h (hR h 1238 v0) ((hI h 1239 v0)).toNatClampNeg FP.fconst0) 1237 v0) (v5).toNatClampNeg v1) (hR (sAI (sAF h (hR h 1238 v0) ((hI h 1239 v0)).toNatClampNeg FP.fconst0) (hR (sAF h (hR h 1238 v0) ((hI h 1239 v0)).toNatClampNeg FP.fconst0) 1237 v0) (v5).toNatClampNeg v1) 1237 v0) (v5 + (1 : Int32)) = true) ∧ ((hK (sAI (sAI (sAF h (hR h 1238 v0) ((hI h 1239 v0)).toNatClampNeg FP.fconst0) (hR (sAF h (hR h 1238 v0) ((hI h 1239 v0)).toNatClampNeg FP.fconst0) 1237 v0) (v5).toNatClampNeg v1) (hR (sAI (sAF h (hR h 1238 v0) ((hI h 1239 v0)).toNatClampNeg FP.fconst0) (hR (sAF h (hR h 1238 v0) ((hI h 1239 v0)).toNatClampNeg FP.fconst0) 1237 v0) (v5).toNatClampNeg v1) 1237 v0) ((v5 + (1 : Int32))).toNatClampNeg v2) v0 = 12) ∧ (WP d mX12_sends 99 [some (.ref v0), some (.int v1), some (.int v2), some (.int v3), some (.int v4), some (.int v5), some (.int v6)] [.ref (hR (sAI (sAI (sAF h (hR h 1238 v0) ((hI h 1239 v0)).toNatClampNeg FP.fconst0) (hR (sAF h (hR h 1238 v0) ((hI h 1239 v0)).toNatClampNeg FP.fconst0) 1237 v0) (v5).toNatClampNeg v1) (hR (sAI (sAF h (hR h 1238 v0) ((hI h 1239 v0)).toNatClampNeg FP.fconst0) (hR (sAF h (hR h 1238 v0) ((hI h 1239 v0)).toNatClampNeg FP.fconst0) 1237 v0) (v5).toNatClampNeg v1) 1237 v0) ((v5 + (1 : Int32))).toNatClampNeg v2) 1237 v0)] (sAI (sAI (sAF h (hR h 1238 v0) ((hI h 1239 v0)).toNatClampNeg FP.fconst0) (hR (sAF h (hR h 1238 v0) ((hI h 1239 v0)).toNatClampNeg FP.fconst0) 1237 v0) (v5).toNatClampNeg v1) (hR (sAI (sAF h (hR h 1238 v0) ((hI h 1239 v0)).toNatClampNeg FP.fconst0) (hR (sAF h (hR h 1238 v0) ((hI h 1239 v0)).toNatClampNeg FP.fconst0) 1237 v0) (v5).toNatClampNeg v1) 1237 v0) ((v5 + (1 : Int32))).toNatClampNeg v2) Q))))))))))) ∧ ((¬ ((24 : Int32) ≤ v6)) → (hK h v0 = 12) ∧ ((hK h (hR h 1237 v0) = 20) ∧ ((inA h (hR h 1237 v0) (v5 + v6) = true) ∧ (WP d mX12_sends 43 [some (.ref v0), some (.int v1), some (.int v2), some (.int v3), some (.int v4), some (.int v5), some (.int (v6 + (1 : Int32)))] [] (sAI h (hR h 1237 v0) ((v5 + v6)).toNatClampNeg (0 : Int32)) Q))))) : WP d mX12_sends 43 [some (.ref v0), some (.int v1), some (.int v2), some (.int v3), some (.int v4), some (.int v5), some (.int v6)] [] h Q := by
  refine w_iload dX12_sends_43 rfl ?_
  refine w_bipush dX12_sends_45 i2_24 ?_
  refine w_ic_ge (pc' := 67) dX12_sends_47 rfl rfl ⟨fun c => ?_, fun c => ?_⟩
  · replace k := k.1 c
    refine w_aload_n dX12_sends_67 rfl ?_
    obtain ⟨g1, k⟩ := k
    refine w_getR dX12_sends_68 f_12_120 t_12_38 g1 ?_
    refine w_aload_n dX12_sends_71 rfl ?_
    refine w_getI dX12_sends_72 f_12_167 t_12_39 g1 ?_
    refine w_fconst0 dX12_sends_75 ?_
    obtain ⟨g2, k⟩ := k
    obtain ⟨g3, k⟩ := k
    refine w_fastore dX12_sends_76 g2 g3 ?_
    refine w_aload_n dX12_sends_77 rfl ?_
    obtain ⟨g4, k⟩ := k
    refine w_getR dX12_sends_78 f_12_117 t_12_37 g4 ?_
    refine w_iload dX12_sends_81 rfl ?_
    refine w_iload_n dX12_sends_83 rfl ?_
    obtain ⟨g5, k⟩ := k
    obtain ⟨g6, k⟩ := k
    refine w_iastore dX12_sends_84 g5 g6 ?_
    refine w_aload_n dX12_sends_85 rfl ?_
    obtain ⟨g7, k⟩ := k
    refine w_getR dX12_sends_86 f_12_117 t_12_37 g7 ?_
    refine w_iload dX12_sends_89 rfl ?_
    refine w_iconst dX12_sends_91 i1_1 ?_
    refine w_iadd dX12_sends_92 ?_
    refine w_iload_n dX12_sends_93 rfl ?_
    obtain ⟨g8, k⟩ := k
    obtain ⟨g9, k⟩ := k
    refine w_iastore dX12_sends_94 g8 g9 ?_
    refine w_aload_n dX12_sends_95 rfl ?_
    obtain ⟨g10, k⟩ := k
    refine w_getR dX12_sends_96 f_12_117 t_12_37 g10 ?_
    exact k
  · replace k := k.2 c
    refine w_aload_n dX12_sends_50 rfl ?_
    obtain ⟨g11, k⟩ := k
    refine w_getR dX12_sends_51 f_12_117 t_12_37 g11 ?_
    refine w_iload dX12_sends_54 rfl ?_
    refine w_iload dX12_sends_56 rfl ?_
    refine w_iadd dX12_sends_58 ?_
    refine w_iconst dX12_sends_59 i1_0 ?_
    obtain ⟨g12, k⟩ := k
    obtain ⟨g13, k⟩ := k
    refine w_iastore dX12_sends_60 g12 g13 ?_
    refine w_iinc (lo' := [some (.ref v0), some (.int v1), some (.int v2), some (.int v3), some (.int v4), some (.int v5), some (.int (v6 + (1 : Int32)))]) dX12_sends_61 rfl i1_1 rfl ?_
    refine w_goto (pc' := 43) dX12_sends_64 rfl rfl ?_
    exact k
theorem bX12_sends_99 {d : Nat} {h : HP} {Q : Out → HP → Prop} {v0 : Nat} {v1 : Int32} {v2 : Int32} {v3 : Int32} {v4 : Int32} {v5 : Int32} {v6 : Int32} {s0 : Nat} (k : (hK h s0 = 20) ∧ ((inA h s0 (v5 + (2 : Int32)) = true) ∧ ((hK (sAI h s0 ((v5 + (2 : Int32))).toNatClampNeg v3) v0 = 12) ∧ ((hK (sAI h s0 ((v5 + (2 : Int32))).toNatClampNeg v3) (hR (sAI h s0 ((v5 + (2 : Int32))).toNatClampNeg v3) 1237 v0) = 20) ∧ ((inA (sAI h s0 ((v5 + (2 : Int32))).toNatClampNeg v3) (hR (sAI h s0 ((v5 + (2 : Int32))).toNatClampNeg v3) 1237 v0) (v5 + (3 : Int32)) = true) ∧ ((hK (sAI (sAI h s0 ((v5 + (2 : Int32))).toNatClampNeg v3) (hR (sAI h s0 ((v5 + (2 : Int32))).toNatClampNeg v3) 1237 v0) ((v5 + (3 : Int32))).toNatClampNeg v4) v0 = 12) ∧ (Q (.inl (some (.int v5))) (sI (sAI (sAI h s0 ((v5 + (2 : Int32))).toNatClampNeg v3) (hR (sAI h s0 ((v5 + (2 : Int32))).toNatClampNeg v3) 1237 v0) ((v5 + (3 : Int32))).toNatClampNeg v4) 1239 v0 ((hI (sAI (sAI h s0 ((v5 + (2 : Int32))).toNatClampNeg v3) (hR (sAI h s0 ((v5 + (2 : Int32))).toNatClampNeg v3) 1237 v0) ((v5 + (3 : Int32))).toNatClampNeg v4) 1239 v0) + (1 : Int32)))))))))) : WP d mX12_sends 99 [some (.ref v0), some (.int v1), some (.int v2), some (.int v3), some (.int v4), some (.int v5), some (.int v6)] [.ref s0] h Q := by
  refine w_iload dX12_sends_99 rfl ?_
  refine w_iconst dX12_sends_101 i1_2 ?_
  refine w_iadd dX12_sends_102 ?_
  refine w_iload_n dX12_sends_103 rfl ?_
  obtain ⟨g1, k⟩ := k
  obtain ⟨g2, k⟩ := k
  refine w_iastore dX12_sends_104 g1 g2 ?_
  refine w_aload_n dX12_sends_105 rfl ?_
  obtain ⟨g3, k⟩ := k
  refine w_getR dX12_sends_106 f_12_117 t_12_37 g3 ?_
  refine w_iload dX12_sends_109 rfl ?_
  refine w_iconst dX12_sends_111 i1_3 ?_
  refine w_iadd dX12_sends_112 ?_
  refine w_iload dX12_sends_113 rfl ?_
  obtain ⟨g4, k⟩ := k
  obtain ⟨g5, k⟩ := k
  refine w_iastore dX12_sends_115 g4 g5 ?_
  refine w_aload_n dX12_sends_116 rfl ?_
  refine w_dup dX12_sends_117 rfl ?_
  obtain ⟨g6, k⟩ := k
  refine w_getI dX12_sends_118 f_12_167 t_12_39 g6 ?_
  refine w_iconst dX12_sends_121 i1_1 ?_
  refine w_iadd dX12_sends_122 ?_
  refine w_putI dX12_sends_123 f_12_167 t_12_39 (pf_nf n_12_39) g6 ?_
  refine w_iload dX12_sends_126 rfl ?_
  exact w_ireturn dX12_sends_128 rfl k
theorem bX12_leaves_0 {d : Nat} {h : HP} {Q : Out → HP → Prop} {v0 : Nat} {v1 : Int32} {u2 : Option Value} (k : WP d mX12_leaves 5 [some (.ref v0), some (.int v1), some (.int ((24 : Int32) * v1))] [] h Q) : WP d mX12_leaves 0 [some (.ref v0), some (.int v1), u2] [] h Q := by
  refine w_bipush dX12_leaves_0 i2_24 ?_
  refine w_iload_n dX12_leaves_2 rfl ?_
  refine w_imul dX12_leaves_3 ?_
  refine w_istore_n (lo' := [some (.ref v0), some (.int v1), some (.int ((24 : Int32) * v1))]) dX12_leaves_4 (ltQ rfl) rfl ?_
  exact k
theorem bX12_leaves_5 {d : Nat} {h : HP} {Q : Out → HP → Prop} {v0 : Nat} {v1 : Int32} {v2 : Int32} (k : (hK h v0 = 12) ∧ (((((24 : Int32) * ((hI h 1239 v0) - (1 : Int32))) ≤ v2) → WP d mX12_leaves 41 [some (.ref v0), some (.int v1), some (.int v1)] [] h Q) ∧ ((¬ (((24 : Int32) * ((hI h 1239 v0) - (1 : Int32))) ≤ v2)) → (hK h (hR h 1237 v0) = 20) ∧ ((inA h (hR h 1237 v0) (v2 + (24 : Int32)) = true) ∧ ((inA h (hR h 1237 v0) v2 = true) ∧ (WP d mX12_leaves 5 [some (.ref v0), some (.int v1), some (.int (v2 + (1 : Int32)))] [] (sAI h (hR h 1237 v0) (v2).toNatClampNeg (hAI h (hR h 1237 v0) ((v2 + (24 : Int32))).toNatClampNeg)) Q)))))) : WP d mX12_leaves 5 [some (.ref v0), some (.int v1), some (.int v2)] [] h Q := by
  refine w_iload_n dX12_leaves_5 rfl ?_
  refine w_bipush dX12_leaves_6 i2_24 ?_
  refine w_aload_n dX12_leaves_8 rfl ?_
  obtain ⟨g1, k⟩ := k
  refine w_getI dX12_leaves_9 f_12_167 t_12_39 g1 ?_
  refine w_iconst dX12_leaves_12 i1_1 ?_
  refine w_isub dX12_leaves_13 ?_
  refine w_imul dX12_leaves_14 ?_
  refine w_ic_ge (pc' := 39) dX12_leaves_15 rfl rfl ⟨fun c => ?_, fun c => ?_⟩
  · replace k := k.1 c
    refine w_iload_n dX12_leaves_39 rfl ?_
    refine w_istore_n (lo' := [some (.ref v0), some (.int v1), some (.int v1)]) dX12_leaves_40 (ltQ rfl) rfl ?_
    exact k
  · replace k := k.2 c
    refine w_aload_n dX12_leaves_18 rfl ?_
    refine w_getR dX12_leaves_19 f_12_117 t_12_37 g1 ?_
    refine w_iload_n dX12_leaves_22 rfl ?_
    refine w_aload_n dX12_leaves_23 rfl ?_
    refine w_getR dX12_leaves_24 f_12_117 t_12_37 g1 ?_
    refine w_iload_n dX12_leaves_27 rfl ?_
    refine w_bipush dX12_leaves_28 i2_24 ?_
    refine w_iadd dX12_leaves_30 ?_
    obtain ⟨g2, k⟩ := k
    obtain ⟨g3, k⟩ := k
    refine w_iaload dX12_leaves_31 g2 g3 ?_
    obtain ⟨g4, k⟩ := k
    refine w_iastore dX12_leaves_32 g2 g4 ?_
    refine w_iinc (lo' := [some (.ref v0), some (.int v1), some (.int (v2 + (1 : Int32)))]) dX12_leaves_33 rfl i1_1 rfl ?_
    refine w_goto (pc' := 5) dX12_leaves_36 rfl rfl ?_
    exact k
theorem bX12_leaves_41 {d : Nat} {h : HP} {Q : Out → HP → Prop} {v0 : Nat} {v1 : Int32} {v2 : Int32} (k : (hK h v0 = 12) ∧ (((((hI h 1239 v0) - (1 : Int32)) ≤ v2) → Q (.inl none) (sI h 1239 v0 ((hI h 1239 v0) - (1 : Int32)))) ∧ ((¬ (((hI h 1239 v0) - (1 : Int32)) ≤ v2)) → (hK h (hR h 1238 v0) = 22) ∧ ((inA h (hR h 1238 v0) (v2 + (1 : Int32)) = true) ∧ ((inA h (hR h 1238 v0) v2 = true) ∧ (WP d mX12_leaves 41 [some (.ref v0), some (.int v1), some (.int (v2 + (1 : Int32)))] [] (sAF h (hR h 1238 v0) (v2).toNatClampNeg (hAF h (hR h 1238 v0) ((v2 + (1 : Int32))).toNatClampNeg)) Q)))))) : WP d mX12_leaves 41 [some (.ref v0), some (.int v1), some (.int v2)] [] h Q := by
  refine w_iload_n dX12_leaves_41 rfl ?_
  refine w_aload_n dX12_leaves_42 rfl ?_
  obtain ⟨g1, k⟩ := k
  refine w_getI dX12_leaves_43 f_12_167 t_12_39 g1 ?_
  refine w_iconst dX12_leaves_46 i1_1 ?_
  refine w_isub dX12_leaves_47 ?_
  refine w_ic_ge (pc' := 71) dX12_leaves_48 rfl rfl ⟨fun c => ?_, fun c => ?_⟩
  · replace k := k.1 c
    refine w_aload_n dX12_leaves_71 rfl ?_
    refine w_dup dX12_leaves_72 rfl ?_
    refine w_getI dX12_leaves_73 f_12_167 t_12_39 g1 ?_
    refine w_iconst dX12_leaves_76 i1_1 ?_
    refine w_isub dX12_leaves_77 ?_
    refine w_putI dX12_leaves_78 f_12_167 t_12_39 (pf_nf n_12_39) g1 ?_
    exact w_return dX12_leaves_81 rfl k
  · replace k := k.2 c
    refine w_aload_n dX12_leaves_51 rfl ?_
    refine w_getR dX12_leaves_52 f_12_120 t_12_38 g1 ?_
    refine w_iload_n dX12_leaves_55 rfl ?_
    refine w_aload_n dX12_leaves_56 rfl ?_
    refine w_getR dX12_leaves_57 f_12_120 t_12_38 g1 ?_
    refine w_iload_n dX12_leaves_60 rfl ?_
    refine w_iconst dX12_leaves_61 i1_1 ?_
    refine w_iadd dX12_leaves_62 ?_
    obtain ⟨g2, k⟩ := k
    obtain ⟨g3, k⟩ := k
    refine w_faload dX12_leaves_63 g2 g3 ?_
    obtain ⟨g4, k⟩ := k
    refine w_fastore dX12_leaves_64 g2 g4 ?_
    refine w_iinc (lo' := [some (.ref v0), some (.int v1), some (.int (v2 + (1 : Int32)))]) dX12_leaves_65 rfl i1_1 rfl ?_
    refine w_goto (pc' := 41) dX12_leaves_68 rfl rfl ?_
    exact k
theorem bX12_isMessage_0 {d : Nat} {h : HP} {Q : Out → HP → Prop} {v0 : Nat} {v1 : Int32} (k : (hK h v0 = 12) ∧ (WP d mX12_in 0 [some (.int v1), some (.int (0 : Int32)), some (.int ((hI h 1239 v0) - (1 : Int32)))] [] h (KK d mX12_isMessage mX12_in 8 [some (.ref v0), some (.int v1)] [] Q))) : WP (d + 1) mX12_isMessage 0 [some (.ref v0), some (.int v1)] [] h Q := by
  refine w_iload_n dX12_isMessage_0 rfl ?_
  refine w_iconst dX12_isMessage_1 i1_0 ?_
  refine w_aload_n dX12_isMessage_2 rfl ?_
  obtain ⟨g1, k⟩ := k
  refine w_getI dX12_isMessage_3 f_12_167 t_12_39 g1 ?_
  refine w_iconst dX12_isMessage_6 i1_1 ?_
  refine w_isub dX12_isMessage_7 ?_
  exact w_stat (as1 := [.int ((hI h 1239 v0) - (1 : Int32)), .int (0 : Int32), .int v1]) (as2 := [.int v1, .int (0 : Int32), .int ((hI h 1239 v0) - (1 : Int32))]) (rest := []) (lo2 := [some (.int v1), some (.int (0 : Int32)), some (.int ((hI h 1239 v0) - (1 : Int32)))]) dX12_isMessage_8 c_12_154 rfl rfl rfl (Nat.le_of_ble_eq_true rfl) (Nat.le_of_ble_eq_true rfl) rfl (Nat.le_of_ble_eq_true rfl) rfl k
theorem bX12_isMessage_11 {d : Nat} {h : HP} {Q : Out → HP → Prop} {v0 : Nat} {v1 : Int32} {s0 : Int32} (k : (isZ s0 = true) ∧ (Q (.inl (some (.int s0))) h)) : WP d mX12_isMessage 11 [some (.ref v0), some (.int v1)] [.int s0] h Q := by
  obtain ⟨g1, k⟩ := k
  exact w_ireturn dX12_isMessage_11 g1 k
theorem bX12_lose_0 {d : Nat} {h : HP} {Q : Out → HP → Prop} {v0 : Nat} {v1 : Int32} (k : (1 < v0) ∧ ((hK h v0 = 12) ∧ (WP d mX12_isMessage 0 [some (.ref v0), some (.int v1)] [] h (KK d mX12_lose mX12_isMessage 3 [some (.ref v0), some (.int v1)] [.ref v0] Q)))) : WP (d + 1) mX12_lose 0 [some (.ref v0), some (.int v1)] [] h Q := by
  refine w_aload_n dX12_lose_0 rfl ?_
  refine w_aload_n dX12_lose_1 rfl ?_
  refine w_iload_n dX12_lose_2 rfl ?_
  obtain ⟨g1, k⟩ := k
  obtain ⟨g2, k⟩ := k
  exact w_virt (as1 := [.int v1, .ref v0]) (as2 := [.ref v0, .int v1]) (rest := [.ref v0]) (lo2 := [some (.ref v0), some (.int v1)]) dX12_lose_3 c_12_195 rfl rfl rfl (Nat.le_of_ble_eq_true rfl) (Nat.le_of_ble_eq_true rfl) rfl (Nat.le_of_ble_eq_true rfl) rfl rfl g1 g2 k
theorem bX12_lose_6 {d : Nat} {h : HP} {Q : Out → HP → Prop} {v0 : Nat} {v1 : Int32} {s0 : Int32} {s1 : Nat} (k : (1 < s1) ∧ ((hK h s1 = 12) ∧ (WP d mX12_goes 0 [some (.ref s1), some (.int s0), some (.int (1 : Int32)), some (.int (1 : Int32))] [] h (KK d mX12_lose mX12_goes 8 [some (.ref v0), some (.int v1)] [] Q)))) : WP (d + 1) mX12_lose 6 [some (.ref v0), some (.int v1)] [.int s0, .ref s1] h Q := by
  refine w_iconst dX12_lose_6 i1_1 ?_
  refine w_iconst dX12_lose_7 i1_1 ?_
  obtain ⟨g1, k⟩ := k
  obtain ⟨g2, k⟩ := k
  exact w_virt (as1 := [.int (1 : Int32), .int (1 : Int32), .int s0, .ref s1]) (as2 := [.ref s1, .int s0, .int (1 : Int32), .int (1 : Int32)]) (rest := []) (lo2 := [some (.ref s1), some (.int s0), some (.int (1 : Int32)), some (.int (1 : Int32))]) dX12_lose_8 c_12_173 rfl rfl rfl (Nat.le_of_ble_eq_true rfl) (Nat.le_of_ble_eq_true rfl) rfl (Nat.le_of_ble_eq_true rfl) rfl rfl g1 g2 k
theorem bX12_lose_11 {d : Nat} {h : HP} {Q : Out → HP → Prop} {v0 : Nat} {v1 : Int32} {s0 : Int32} (k : ((¬ s0 = 0) → (hK h v0 = 12) ∧ ((1 < v0) ∧ ((hK (sI h 1204 v0 ((hI h 1204 v0) + (1 : Int32))) v0 = 12) ∧ (WP d mX12_leaves 0 [some (.ref v0), some (.int v1), none] [] (sI h 1204 v0 ((hI h 1204 v0) + (1 : Int32))) (KK d mX12_lose mX12_leaves 28 [some (.ref v0), some (.int v1)] [] Q))))) ∧ ((¬ (¬ s0 = 0)) → Q (.inl (some (.int (0 : Int32)))) h)) : WP (d + 1) mX12_lose 11 [some (.ref v0), some (.int v1)] [.int s0] h Q := by
  refine w_if_ne (pc' := 16) dX12_lose_11 rfl rfl ⟨fun c => ?_, fun c => ?_⟩
  · replace k := k.1 c
    refine w_aload_n dX12_lose_16 rfl ?_
    refine w_dup dX12_lose_17 rfl ?_
    obtain ⟨g1, k⟩ := k
    refine w_getI dX12_lose_18 f_12_164 t_12_4 g1 ?_
    refine w_iconst dX12_lose_21 i1_1 ?_
    refine w_iadd dX12_lose_22 ?_
    refine w_putI dX12_lose_23 f_12_164 t_12_4 (pf_nf n_12_4) g1 ?_
    refine w_aload_n dX12_lose_26 rfl ?_
    refine w_iload_n dX12_lose_27 rfl ?_
    obtain ⟨g2, k⟩ := k
    obtain ⟨g3, k⟩ := k
    exact w_virt (as1 := [.int v1, .ref v0]) (as2 := [.ref v0, .int v1]) (rest := []) (lo2 := [some (.ref v0), some (.int v1), none]) dX12_lose_28 c_12_198 rfl rfl rfl (Nat.le_of_ble_eq_true rfl) (Nat.le_of_ble_eq_true rfl) rfl (Nat.le_of_ble_eq_true rfl) rfl rfl g2 g3 k
  · replace k := k.2 c
    refine w_iconst dX12_lose_14 i1_0 ?_
    exact w_ireturn dX12_lose_15 rfl k
theorem bX12_lose_31 {d : Nat} {h : HP} {Q : Out → HP → Prop} {v0 : Nat} {v1 : Int32} (k : (hK h v0 = 12) ∧ (Q (.inl (some (.int (hI h 1239 v0)))) h)) : WP d mX12_lose 31 [some (.ref v0), some (.int v1)] [] h Q := by
  refine w_aload_n dX12_lose_31 rfl ?_
  obtain ⟨g1, k⟩ := k
  refine w_getI dX12_lose_32 f_12_167 t_12_39 g1 ?_
  exact w_ireturn dX12_lose_35 rfl k
theorem bX12_twice_0 {d : Nat} {h : HP} {Q : Out → HP → Prop} {v0 : Nat} {v1 : Int32} {u2 : Option Value} (k : (1 < v0) ∧ ((hK h v0 = 12) ∧ (WP d mX12_isMessage 0 [some (.ref v0), some (.int v1)] [] h (KK d mX12_twice mX12_isMessage 3 [some (.ref v0), some (.int v1), u2] [.ref v0] Q)))) : WP (d + 1) mX12_twice 0 [some (.ref v0), some (.int v1), u2] [] h Q := by
  refine w_aload_n dX12_twice_0 rfl ?_
  refine w_aload_n dX12_twice_1 rfl ?_
  refine w_iload_n dX12_twice_2 rfl ?_
  obtain ⟨g1, k⟩ := k
  obtain ⟨g2, k⟩ := k
  exact w_virt (as1 := [.int v1, .ref v0]) (as2 := [.ref v0, .int v1]) (rest := [.ref v0]) (lo2 := [some (.ref v0), some (.int v1)]) dX12_twice_3 c_12_195 rfl rfl rfl (Nat.le_of_ble_eq_true rfl) (Nat.le_of_ble_eq_true rfl) rfl (Nat.le_of_ble_eq_true rfl) rfl rfl g1 g2 k
theorem bX12_twice_6 {d : Nat} {h : HP} {Q : Out → HP → Prop} {v0 : Nat} {v1 : Int32} {u2 : Option Value} {s0 : Int32} {s1 : Nat} (k : (1 < s1) ∧ ((hK h s1 = 12) ∧ (WP d mX12_goes 0 [some (.ref s1), some (.int s0), some (.int (1 : Int32)), some (.int (1 : Int32))] [] h (KK d mX12_twice mX12_goes 8 [some (.ref v0), some (.int v1), u2] [] Q)))) : WP (d + 1) mX12_twice 6 [some (.ref v0), some (.int v1), u2] [.int s0, .ref s1] h Q := by
  refine w_iconst dX12_twice_6 i1_1 ?_
  refine w_iconst dX12_twice_7 i1_1 ?_
  obtain ⟨g1, k⟩ := k
  obtain ⟨g2, k⟩ := k
  exact w_virt (as1 := [.int (1 : Int32), .int (1 : Int32), .int s0, .ref s1]) (as2 := [.ref s1, .int s0, .int (1 : Int32), .int (1 : Int32)]) (rest := []) (lo2 := [some (.ref s1), some (.int s0), some (.int (1 : Int32)), some (.int (1 : Int32))]) dX12_twice_8 c_12_173 rfl rfl rfl (Nat.le_of_ble_eq_true rfl) (Nat.le_of_ble_eq_true rfl) rfl (Nat.le_of_ble_eq_true rfl) rfl rfl g1 g2 k
theorem bX12_twice_11 {d : Nat} {h : HP} {Q : Out → HP → Prop} {v0 : Nat} {v1 : Int32} {u2 : Option Value} {s0 : Int32} (k : ((¬ s0 = 0) → (hK h v0 = 12) ∧ ((hK (sI h 1204 v0 ((hI h 1204 v0) + (1 : Int32))) v0 = 12) ∧ ((((60 : Int32) ≤ (hI (sI h 1204 v0 ((hI h 1204 v0) + (1 : Int32))) 1239 v0)) → Q (.inl (some (.int (hI (sI h 1204 v0 ((hI h 1204 v0) + (1 : Int32))) 1239 v0)))) (sI h 1204 v0 ((hI h 1204 v0) + (1 : Int32)))) ∧ ((¬ ((60 : Int32) ≤ (hI (sI h 1204 v0 ((hI h 1204 v0) + (1 : Int32))) 1239 v0))) → WP d mX12_twice 37 [some (.ref v0), some (.int v1), some (.int (0 : Int32))] [] (sI h 1204 v0 ((hI h 1204 v0) + (1 : Int32))) Q)))) ∧ ((¬ (¬ s0 = 0)) → Q (.inl (some (.int (0 : Int32)))) h)) : WP d mX12_twice 11 [some (.ref v0), some (.int v1), u2] [.int s0] h Q := by
  refine w_if_ne (pc' := 16) dX12_twice_11 rfl rfl ⟨fun c => ?_, fun c => ?_⟩
  · replace k := k.1 c
    refine w_aload_n dX12_twice_16 rfl ?_
    refine w_dup dX12_twice_17 rfl ?_
    obtain ⟨g1, k⟩ := k
    refine w_getI dX12_twice_18 f_12_164 t_12_4 g1 ?_
    refine w_iconst dX12_twice_21 i1_1 ?_
    refine w_iadd dX12_twice_22 ?_
    refine w_putI dX12_twice_23 f_12_164 t_12_4 (pf_nf n_12_4) g1 ?_
    refine w_aload_n dX12_twice_26 rfl ?_
    obtain ⟨g2, k⟩ := k
    refine w_getI dX12_twice_27 f_12_167 t_12_39 g2 ?_
    refine w_bipush dX12_twice_30 i2_60 ?_
    refine w_ic_ge (pc' := 99) dX12_twice_32 rfl rfl ⟨fun c => ?_, fun c => ?_⟩
    · replace k := k.1 c
      refine w_aload_n dX12_twice_99 rfl ?_
      refine w_getI dX12_twice_100 f_12_167 t_12_39 g2 ?_
      exact w_ireturn dX12_twice_103 rfl k
    · replace k := k.2 c
      refine w_iconst dX12_twice_35 i1_0 ?_
      refine w_istore_n (lo' := [some (.ref v0), some (.int v1), some (.int (0 : Int32))]) dX12_twice_36 (ltQ rfl) rfl ?_
      exact k
  · replace k := k.2 c
    refine w_iconst dX12_twice_14 i1_0 ?_
    exact w_ireturn dX12_twice_15 rfl k
theorem bX12_twice_37 {d : Nat} {h : HP} {Q : Out → HP → Prop} {v0 : Nat} {v1 : Int32} {v2 : Int32} (k : (((24 : Int32) ≤ v2) → (hK h v0 = 12) ∧ ((hK h (hR h 1238 v0) = 22) ∧ ((inA h (hR h 1238 v0) v1 = true) ∧ ((inA h (hR h 1238 v0) (hI h 1239 v0) = true) ∧ ((hK (sAF h (hR h 1238 v0) ((hI h 1239 v0)).toNatClampNeg (hAF h (hR h 1238 v0) (v1).toNatClampNeg)) v0 = 12) ∧ ((hK (sI (sAF h (hR h 1238 v0) ((hI h 1239 v0)).toNatClampNeg (hAF h (hR h 1238 v0) (v1).toNatClampNeg)) 1239 v0 ((hI (sAF h (hR h 1238 v0) ((hI h 1239 v0)).toNatClampNeg (hAF h (hR h 1238 v0) (v1).toNatClampNeg)) 1239 v0) + (1 : Int32))) v0 = 12) ∧ (Q (.inl (some (.int (hI (sI (sAF h (hR h 1238 v0) ((hI h 1239 v0)).toNatClampNeg (hAF h (hR h 1238 v0) (v1).toNatClampNeg)) 1239 v0 ((hI (sAF h (hR h 1238 v0) ((hI h 1239 v0)).toNatClampNeg (hAF h (hR h 1238 v0) (v1).toNatClampNeg)) 1239 v0) + (1 : Int32))) 1239 v0)))) (sI (sAF h (hR h 1238 v0) ((hI h 1239 v0)).toNatClampNeg (hAF h (hR h 1238 v0) (v1).toNatClampNeg)) 1239 v0 ((hI (sAF h (hR h 1238 v0) ((hI h 1239 v0)).toNatClampNeg (hAF h (hR h 1238 v0) (v1).toNatClampNeg)) 1239 v0) + (1 : Int32)))))))))) ∧ ((¬ ((24 : Int32) ≤ v2)) → (hK h v0 = 12) ∧ ((hK h (hR h 1237 v0) = 20) ∧ ((inA h (hR h 1237 v0) (((24 : Int32) * v1) + v2) = true) ∧ ((inA h (hR h 1237 v0) (((24 : Int32) * (hI h 1239 v0)) + v2) = true) ∧ (WP d mX12_twice 37 [some (.ref v0), some (.int v1), some (.int (v2 + (1 : Int32)))] [] (sAI h (hR h 1237 v0) ((((24 : Int32) * (hI h 1239 v0)) + v2)).toNatClampNeg (hAI h (hR h 1237 v0) ((((24 : Int32) * v1) + v2)).toNatClampNeg)) Q)))))) : WP d mX12_twice 37 [some (.ref v0), some (.int v1), some (.int v2)] [] h Q := by
  refine w_iload_n dX12_twice_37 rfl ?_
  refine w_bipush dX12_twice_38 i2_24 ?_
  refine w_ic_ge (pc' := 74) dX12_twice_40 rfl rfl ⟨fun c => ?_, fun c => ?_⟩
  · replace k := k.1 c
    refine w_aload_n dX12_twice_74 rfl ?_
    obtain ⟨g1, k⟩ := k
    refine w_getR dX12_twice_75 f_12_120 t_12_38 g1 ?_
    refine w_aload_n dX12_twice_78 rfl ?_
    refine w_getI dX12_twice_79 f_12_167 t_12_39 g1 ?_
    refine w_aload_n dX12_twice_82 rfl ?_
    refine w_getR dX12_twice_83 f_12_120 t_12_38 g1 ?_
    refine w_iload_n dX12_twice_86 rfl ?_
    obtain ⟨g2, k⟩ := k
    obtain ⟨g3, k⟩ := k
    refine w_faload dX12_twice_87 g2 g3 ?_
    obtain ⟨g4, k⟩ := k
    refine w_fastore dX12_twice_88 g2 g4 ?_
    refine w_aload_n dX12_twice_89 rfl ?_
    refine w_dup dX12_twice_90 rfl ?_
    obtain ⟨g5, k⟩ := k
    refine w_getI dX12_twice_91 f_12_167 t_12_39 g5 ?_
    refine w_iconst dX12_twice_94 i1_1 ?_
    refine w_iadd dX12_twice_95 ?_
    refine w_putI dX12_twice_96 f_12_167 t_12_39 (pf_nf n_12_39) g5 ?_
    refine w_aload_n dX12_twice_99 rfl ?_
    obtain ⟨g6, k⟩ := k
    refine w_getI dX12_twice_100 f_12_167 t_12_39 g6 ?_
    exact w_ireturn dX12_twice_103 rfl k
  · replace k := k.2 c
    refine w_aload_n dX12_twice_43 rfl ?_
    obtain ⟨g7, k⟩ := k
    refine w_getR dX12_twice_44 f_12_117 t_12_37 g7 ?_
    refine w_bipush dX12_twice_47 i2_24 ?_
    refine w_aload_n dX12_twice_49 rfl ?_
    refine w_getI dX12_twice_50 f_12_167 t_12_39 g7 ?_
    refine w_imul dX12_twice_53 ?_
    refine w_iload_n dX12_twice_54 rfl ?_
    refine w_iadd dX12_twice_55 ?_
    refine w_aload_n dX12_twice_56 rfl ?_
    refine w_getR dX12_twice_57 f_12_117 t_12_37 g7 ?_
    refine w_bipush dX12_twice_60 i2_24 ?_
    refine w_iload_n dX12_twice_62 rfl ?_
    refine w_imul dX12_twice_63 ?_
    refine w_iload_n dX12_twice_64 rfl ?_
    refine w_iadd dX12_twice_65 ?_
    obtain ⟨g8, k⟩ := k
    obtain ⟨g9, k⟩ := k
    refine w_iaload dX12_twice_66 g8 g9 ?_
    obtain ⟨g10, k⟩ := k
    refine w_iastore dX12_twice_67 g8 g10 ?_
    refine w_iinc (lo' := [some (.ref v0), some (.int v1), some (.int (v2 + (1 : Int32)))]) dX12_twice_68 rfl i1_1 rfl ?_
    refine w_goto (pc' := 37) dX12_twice_71 rfl rfl ?_
    exact k
