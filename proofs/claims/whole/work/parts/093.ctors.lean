set_option maxHeartbeats 4000000 in
set_option maxRecDepth 100000 in
theorem cc_2 (l : Launch) (B : Nat) (D : va_G) (K : Nat → ClassId) : CtC l yX10_init cX10_init 1 1 20 1 1600 B D K [.ref (B + 1)] cs_2 cm_0 cs_4 cm_0 := by
  refine ct_c (by decide) rfl (Nat.le_of_ble_eq_true rfl) ?_
  intro p e s m args below meth c hC hin hN
  have hC : Cx p s m args meth c D K cX10_init 1 RX10 none := hC
  refine (show GC p l e (rmC 1 20 1 1600) s m args below meth c B D K 1 0 0 (MQ below (QC B D K cs_4 cm_0) args s 1 1600 (GE B)) cs_2 cm_0 0 [(0, .ref (B + 1))] [] from ?_)
  refine gc_aload_n hC 0 dX10_init_0 rfl rfl ?_
  refine gc_obj hC ⟨wm_X10_3, wob, woc⟩ (Nat.le_of_ble_eq_true rfl) (Nat.le_of_ble_eq_true rfl) dX10_init_1 ?_
  refine gc_aload_n hC 0 dX10_init_4 rfl rfl ?_
  refine gc_sipush hC dX10_init_5 (by decide) ?_
  refine gc_newa hC (atype := .byte) 1 1600 2 cs_3 (by decide) rfl wa_byte (fun _ => rfl) (fun _ h1 h2 => Option.some.inj (h2.symm.trans h1)) cl_2 rfl rfl (by decide) (by decide) (Nat.le_of_ble_eq_true rfl) (Nat.le_of_ble_eq_true rfl) (Nat.le_of_ble_eq_true rfl) dX10_init_8 ?_
  refine gc_putr hC hin cs_4 okX10 tnX10 cg_3_1 0 (by decide) (by decide) rfl rfl (tnX10.1 0 (by decide)) rfl rfl wf_X10_9 rfl dX10_init_10 ?_
  exact gc_ret hC hN dX10_init_13
set_option maxHeartbeats 4000000 in
set_option maxRecDepth 100000 in
theorem cc_4 (l : Launch) (B : Nat) (D : va_G) (K : Nat → ClassId) : CtC l yX5_init cX5_init 1 1 20 5 150 B D K [.ref (B + 4)] cs_7 cm_0 cs_17 cm_0 := by
  refine ct_c (by decide) rfl (Nat.le_of_ble_eq_true rfl) ?_
  intro p e s m args below meth c hC hin hN
  have hC : Cx p s m args meth c D K cX5_init 1 RX5 none := hC
  refine (show GC p l e (rmC 1 20 5 150) s m args below meth c B D K 1 0 0 (MQ below (QC B D K cs_17 cm_0) args s 5 150 (GE B)) cs_7 cm_0 0 [(0, .ref (B + 4))] [] from ?_)
  refine gc_aload_n hC 0 dX5_init_0 rfl rfl ?_
  refine gc_obj hC ⟨wm_X5_3, wob, woc⟩ (Nat.le_of_ble_eq_true rfl) (Nat.le_of_ble_eq_true rfl) dX5_init_1 ?_
  refine gc_aload_n hC 0 dX5_init_4 rfl rfl ?_
  refine gc_bipush hC dX5_init_5 (by decide) ?_
  refine gc_newa hC (atype := .int) 0 30 5 cs_8 (by decide) rfl wa_int (fun _ => rfl) (fun _ h1 h2 => Option.some.inj (h2.symm.trans h1)) cl_7 rfl rfl (by decide) (by decide) (Nat.le_of_ble_eq_true rfl) (Nat.le_of_ble_eq_true rfl) (Nat.le_of_ble_eq_true rfl) dX5_init_7 ?_
  refine gc_putr hC hin cs_9 okX5 tnX5 cg_8_4 2 (by decide) (by decide) rfl rfl (tnX5.1 2 (by decide)) rfl rfl wf_X5_9 rfl dX5_init_9 ?_
  refine gc_aload_n hC 0 dX5_init_12 rfl rfl ?_
  refine gc_bipush hC dX5_init_13 (by decide) ?_
  refine gc_newa hC (atype := .int) 0 30 6 cs_10 (by decide) rfl wa_int (fun _ => rfl) (fun _ h1 h2 => Option.some.inj (h2.symm.trans h1)) cl_9 rfl rfl (by decide) (by decide) (Nat.le_of_ble_eq_true rfl) (Nat.le_of_ble_eq_true rfl) (Nat.le_of_ble_eq_true rfl) dX5_init_15 ?_
  refine gc_putr hC hin cs_11 okX5 tnX5 cg_10_4 3 (by decide) (by decide) rfl rfl (tnX5.1 3 (by decide)) rfl rfl wf_X5_15 rfl dX5_init_17 ?_
  refine gc_aload_n hC 0 dX5_init_20 rfl rfl ?_
  refine gc_bipush hC dX5_init_21 (by decide) ?_
  refine gc_newa hC (atype := .int) 0 30 7 cs_12 (by decide) rfl wa_int (fun _ => rfl) (fun _ h1 h2 => Option.some.inj (h2.symm.trans h1)) cl_11 rfl rfl (by decide) (by decide) (Nat.le_of_ble_eq_true rfl) (Nat.le_of_ble_eq_true rfl) (Nat.le_of_ble_eq_true rfl) dX5_init_23 ?_
  refine gc_putr hC hin cs_13 okX5 tnX5 cg_12_4 4 (by decide) (by decide) rfl rfl (tnX5.1 4 (by decide)) rfl rfl wf_X5_18 rfl dX5_init_25 ?_
  refine gc_aload_n hC 0 dX5_init_28 rfl rfl ?_
  refine gc_bipush hC dX5_init_29 (by decide) ?_
  refine gc_newa hC (atype := .int) 0 30 8 cs_14 (by decide) rfl wa_int (fun _ => rfl) (fun _ h1 h2 => Option.some.inj (h2.symm.trans h1)) cl_13 rfl rfl (by decide) (by decide) (Nat.le_of_ble_eq_true rfl) (Nat.le_of_ble_eq_true rfl) (Nat.le_of_ble_eq_true rfl) dX5_init_31 ?_
  refine gc_putr hC hin cs_15 okX5 tnX5 cg_14_4 5 (by decide) (by decide) rfl rfl (tnX5.1 5 (by decide)) rfl rfl wf_X5_21 rfl dX5_init_33 ?_
  refine gc_aload_n hC 0 dX5_init_36 rfl rfl ?_
  refine gc_bipush hC dX5_init_37 (by decide) ?_
  refine gc_newa hC (atype := .int) 0 30 9 cs_16 (by decide) rfl wa_int (fun _ => rfl) (fun _ h1 h2 => Option.some.inj (h2.symm.trans h1)) cl_15 rfl rfl (by decide) (by decide) (Nat.le_of_ble_eq_true rfl) (Nat.le_of_ble_eq_true rfl) (Nat.le_of_ble_eq_true rfl) dX5_init_39 ?_
  refine gc_putr hC hin cs_17 okX5 tnX5 cg_16_4 6 (by decide) (by decide) rfl rfl (tnX5.1 6 (by decide)) rfl rfl wf_X5_24 rfl dX5_init_41 ?_
  exact gc_ret hC hN dX5_init_44
set_option maxHeartbeats 4000000 in
set_option maxRecDepth 100000 in
theorem cc_3 (l : Launch) (B : Nat) (D : va_G) (K : Nat → ClassId) : CtC l yX6_init cX6_init 2 2 40 8 187 B D K [.ref (B + 3), .ref (B + 1)] cs_6 cm_0 cs_23 cm_1 := by
  refine ct_c (by decide) rfl (Nat.le_of_ble_eq_true rfl) ?_
  intro p e s m args below meth c hC hin hN
  have hC : Cx p s m args meth c D K cX6_init 2 RX6 none := hC
  refine (show GC p l e (rmC 2 40 8 187) s m args below meth c B D K 2 0 0 (MQ below (QC B D K cs_23 cm_1) args s 8 187 (GE B)) cs_6 cm_0 0 [(0, .ref (B + 3)), (1, .ref (B + 1))] [] from ?_)
  refine gc_aload_n hC 0 dX6_init_0 rfl rfl ?_
  refine gc_obj hC ⟨wm_X6_3, wob, woc⟩ (Nat.le_of_ble_eq_true rfl) (Nat.le_of_ble_eq_true rfl) dX6_init_1 ?_
  refine gc_aload_n hC 0 dX6_init_4 rfl rfl ?_
  refine gc_new hC 4 cs_7 okX5 tnX5 ⟨wcl_X6_9, win_X5, wii_X5⟩ cl_6 rfl rfl rfl bl_X5 (Nat.le_of_ble_eq_true rfl) (Nat.le_of_ble_eq_true rfl) dX6_init_5 ?_
  refine gc_dup hC dX6_init_8 rfl ?_
  refine gc_callN (host := "RiverRanks") hC hN (sk := [.ref (B + 4), .ref (B + 3)]) [] (cc_4 l B D K) yc_X5_init (by decide +kernel) rfl ⟨(Nat.le_of_ble_eq_true rfl), (Nat.le_of_ble_eq_true rfl), (Nat.le_of_ble_eq_true rfl), (Nat.le_of_ble_eq_true rfl)⟩ rfl (Nat.le_of_ble_eq_true rfl) dX6_init_9 ?_
  refine gc_putr hC hin cs_18 okX6 tnX6 cg_17_3 0 (by decide) (by decide) rfl rfl (tnX6.1 0 (by decide)) rfl rfl wf_X6_12 rfl dX6_init_12 ?_
  refine gc_aload_n hC 0 dX6_init_15 rfl rfl ?_
  refine gc_bipush hC dX6_init_16 (by decide) ?_
  refine gc_newa hC (atype := .int) 0 20 10 cs_19 (by decide) rfl wa_int (fun _ => rfl) (fun _ h1 h2 => Option.some.inj (h2.symm.trans h1)) cl_18 rfl rfl (by decide) (by decide) (Nat.le_of_ble_eq_true rfl) (Nat.le_of_ble_eq_true rfl) (Nat.le_of_ble_eq_true rfl) dX6_init_18 ?_
  refine gc_putr hC hin cs_20 okX6 tnX6 cg_19_3 1 (by decide) (by decide) rfl rfl (tnX6.1 1 (by decide)) rfl rfl wf_X6_18 rfl dX6_init_20 ?_
  refine gc_aload_n hC 0 dX6_init_23 rfl rfl ?_
  refine gc_bipush hC dX6_init_24 (by decide) ?_
  refine gc_newa hC (atype := .int) 0 10 11 cs_21 (by decide) rfl wa_int (fun _ => rfl) (fun _ h1 h2 => Option.some.inj (h2.symm.trans h1)) cl_20 rfl rfl (by decide) (by decide) (Nat.le_of_ble_eq_true rfl) (Nat.le_of_ble_eq_true rfl) (Nat.le_of_ble_eq_true rfl) dX6_init_26 ?_
  refine gc_putr hC hin cs_22 okX6 tnX6 cg_21_3 2 (by decide) (by decide) rfl rfl (tnX6.1 2 (by decide)) rfl rfl wf_X6_22 rfl dX6_init_28 ?_
  refine gc_aload_n hC 0 dX6_init_31 rfl rfl ?_
  refine gc_iconst hC dX6_init_32 ?_
  refine gc_putn (v := -1) hC okX6 tnX6 cg_22_3 5 (by decide) rfl rfl (tnX6.1 5 (by decide)) (fun g hg => by rw [← hg]; rfl) rfl rfl wf_X6_25 dX6_init_33 ?_
  refine gc_aload_n hC 0 dX6_init_36 rfl rfl ?_
  refine gc_aload_n hC 1 dX6_init_37 rfl rfl ?_
  refine gc_putr hC hin cs_23 okX6 tnX6 cg_22_3 6 (by decide) (by decide) rfl rfl (tnX6.1 6 (by decide)) rfl rfl wf_X6_29 rfl dX6_init_38 ?_
  exact gc_ret hC hN dX6_init_41
set_option maxHeartbeats 4000000 in
set_option maxRecDepth 100000 in
theorem cc_5 (l : Launch) (B : Nat) (D : va_G) (K : Nat → ClassId) : CtC l yX5_init cX5_init 1 1 20 5 150 B D K [.ref (B + 12)] cs_25 cm_1 cs_35 cm_1 := by
  refine ct_c (by decide) rfl (Nat.le_of_ble_eq_true rfl) ?_
  intro p e s m args below meth c hC hin hN
  have hC : Cx p s m args meth c D K cX5_init 1 RX5 none := hC
  refine (show GC p l e (rmC 1 20 5 150) s m args below meth c B D K 1 0 0 (MQ below (QC B D K cs_35 cm_1) args s 5 150 (GE B)) cs_25 cm_1 0 [(0, .ref (B + 12))] [] from ?_)
  refine gc_aload_n hC 0 dX5_init_0 rfl rfl ?_
  refine gc_obj hC ⟨wm_X5_3, wob, woc⟩ (Nat.le_of_ble_eq_true rfl) (Nat.le_of_ble_eq_true rfl) dX5_init_1 ?_
  refine gc_aload_n hC 0 dX5_init_4 rfl rfl ?_
  refine gc_bipush hC dX5_init_5 (by decide) ?_
  refine gc_newa hC (atype := .int) 0 30 13 cs_26 (by decide) rfl wa_int (fun _ => rfl) (fun _ h1 h2 => Option.some.inj (h2.symm.trans h1)) cl_25 rfl rfl (by decide) (by decide) (Nat.le_of_ble_eq_true rfl) (Nat.le_of_ble_eq_true rfl) (Nat.le_of_ble_eq_true rfl) dX5_init_7 ?_
  refine gc_putr hC hin cs_27 okX5 tnX5 cg_26_12 2 (by decide) (by decide) rfl rfl (tnX5.1 2 (by decide)) rfl rfl wf_X5_9 rfl dX5_init_9 ?_
  refine gc_aload_n hC 0 dX5_init_12 rfl rfl ?_
  refine gc_bipush hC dX5_init_13 (by decide) ?_
  refine gc_newa hC (atype := .int) 0 30 14 cs_28 (by decide) rfl wa_int (fun _ => rfl) (fun _ h1 h2 => Option.some.inj (h2.symm.trans h1)) cl_27 rfl rfl (by decide) (by decide) (Nat.le_of_ble_eq_true rfl) (Nat.le_of_ble_eq_true rfl) (Nat.le_of_ble_eq_true rfl) dX5_init_15 ?_
  refine gc_putr hC hin cs_29 okX5 tnX5 cg_28_12 3 (by decide) (by decide) rfl rfl (tnX5.1 3 (by decide)) rfl rfl wf_X5_15 rfl dX5_init_17 ?_
  refine gc_aload_n hC 0 dX5_init_20 rfl rfl ?_
  refine gc_bipush hC dX5_init_21 (by decide) ?_
  refine gc_newa hC (atype := .int) 0 30 15 cs_30 (by decide) rfl wa_int (fun _ => rfl) (fun _ h1 h2 => Option.some.inj (h2.symm.trans h1)) cl_29 rfl rfl (by decide) (by decide) (Nat.le_of_ble_eq_true rfl) (Nat.le_of_ble_eq_true rfl) (Nat.le_of_ble_eq_true rfl) dX5_init_23 ?_
  refine gc_putr hC hin cs_31 okX5 tnX5 cg_30_12 4 (by decide) (by decide) rfl rfl (tnX5.1 4 (by decide)) rfl rfl wf_X5_18 rfl dX5_init_25 ?_
  refine gc_aload_n hC 0 dX5_init_28 rfl rfl ?_
  refine gc_bipush hC dX5_init_29 (by decide) ?_
  refine gc_newa hC (atype := .int) 0 30 16 cs_32 (by decide) rfl wa_int (fun _ => rfl) (fun _ h1 h2 => Option.some.inj (h2.symm.trans h1)) cl_31 rfl rfl (by decide) (by decide) (Nat.le_of_ble_eq_true rfl) (Nat.le_of_ble_eq_true rfl) (Nat.le_of_ble_eq_true rfl) dX5_init_31 ?_
  refine gc_putr hC hin cs_33 okX5 tnX5 cg_32_12 5 (by decide) (by decide) rfl rfl (tnX5.1 5 (by decide)) rfl rfl wf_X5_21 rfl dX5_init_33 ?_
  refine gc_aload_n hC 0 dX5_init_36 rfl rfl ?_
  refine gc_bipush hC dX5_init_37 (by decide) ?_
  refine gc_newa hC (atype := .int) 0 30 17 cs_34 (by decide) rfl wa_int (fun _ => rfl) (fun _ h1 h2 => Option.some.inj (h2.symm.trans h1)) cl_33 rfl rfl (by decide) (by decide) (Nat.le_of_ble_eq_true rfl) (Nat.le_of_ble_eq_true rfl) (Nat.le_of_ble_eq_true rfl) dX5_init_39 ?_
  refine gc_putr hC hin cs_35 okX5 tnX5 cg_34_12 6 (by decide) (by decide) rfl rfl (tnX5.1 6 (by decide)) rfl rfl wf_X5_24 rfl dX5_init_41 ?_
  exact gc_ret hC hN dX5_init_44
set_option maxHeartbeats 4000000 in
set_option maxRecDepth 100000 in
theorem cc_7 (l : Launch) (B : Nat) (D : va_G) (K : Nat → ClassId) : CtC l yX2_init cX2_init 1 1 20 4 90 B D K [.ref (B + 31)] cs_62 cm_1 cs_70 cm_1 := by
  refine ct_c (by decide) rfl (Nat.le_of_ble_eq_true rfl) ?_
  intro p e s m args below meth c hC hin hN
  have hC : Cx p s m args meth c D K cX2_init 1 RX2 none := hC
  refine (show GC p l e (rmC 1 20 4 90) s m args below meth c B D K 1 0 0 (MQ below (QC B D K cs_70 cm_1) args s 4 90 (GE B)) cs_62 cm_1 0 [(0, .ref (B + 31))] [] from ?_)
  refine gc_aload_n hC 0 dX2_init_0 rfl rfl ?_
  refine gc_obj hC ⟨wm_X2_3, wob, woc⟩ (Nat.le_of_ble_eq_true rfl) (Nat.le_of_ble_eq_true rfl) dX2_init_1 ?_
  refine gc_aload_n hC 0 dX2_init_4 rfl rfl ?_
  refine gc_bipush hC dX2_init_5 (by decide) ?_
  refine gc_newa hC (atype := .int) 0 30 32 cs_63 (by decide) rfl wa_int (fun _ => rfl) (fun _ h1 h2 => Option.some.inj (h2.symm.trans h1)) cl_62 rfl rfl (by decide) (by decide) (Nat.le_of_ble_eq_true rfl) (Nat.le_of_ble_eq_true rfl) (Nat.le_of_ble_eq_true rfl) dX2_init_7 ?_
  refine gc_putr hC hin cs_64 okX2 tnX2 cg_63_31 0 (by decide) (by decide) rfl rfl (tnX2.1 0 (by decide)) rfl rfl wf_X2_9 rfl dX2_init_9 ?_
  refine gc_aload_n hC 0 dX2_init_12 rfl rfl ?_
  refine gc_bipush hC dX2_init_13 (by decide) ?_
  refine gc_newa hC (atype := .int) 0 20 33 cs_65 (by decide) rfl wa_int (fun _ => rfl) (fun _ h1 h2 => Option.some.inj (h2.symm.trans h1)) cl_64 rfl rfl (by decide) (by decide) (Nat.le_of_ble_eq_true rfl) (Nat.le_of_ble_eq_true rfl) (Nat.le_of_ble_eq_true rfl) dX2_init_15 ?_
  refine gc_putr hC hin cs_66 okX2 tnX2 cg_65_31 1 (by decide) (by decide) rfl rfl (tnX2.1 1 (by decide)) rfl rfl wf_X2_15 rfl dX2_init_17 ?_
  refine gc_aload_n hC 0 dX2_init_20 rfl rfl ?_
  refine gc_bipush hC dX2_init_21 (by decide) ?_
  refine gc_newa hC (atype := .int) 0 20 34 cs_67 (by decide) rfl wa_int (fun _ => rfl) (fun _ h1 h2 => Option.some.inj (h2.symm.trans h1)) cl_66 rfl rfl (by decide) (by decide) (Nat.le_of_ble_eq_true rfl) (Nat.le_of_ble_eq_true rfl) (Nat.le_of_ble_eq_true rfl) dX2_init_23 ?_
  refine gc_putr hC hin cs_68 okX2 tnX2 cg_67_31 2 (by decide) (by decide) rfl rfl (tnX2.1 2 (by decide)) rfl rfl wf_X2_18 rfl dX2_init_25 ?_
  refine gc_aload_n hC 0 dX2_init_28 rfl rfl ?_
  refine gc_bipush hC dX2_init_29 (by decide) ?_
  refine gc_newa hC (atype := .int) 0 20 35 cs_69 (by decide) rfl wa_int (fun _ => rfl) (fun _ h1 h2 => Option.some.inj (h2.symm.trans h1)) cl_68 rfl rfl (by decide) (by decide) (Nat.le_of_ble_eq_true rfl) (Nat.le_of_ble_eq_true rfl) (Nat.le_of_ble_eq_true rfl) dX2_init_31 ?_
  refine gc_putr hC hin cs_70 okX2 tnX2 cg_69_31 3 (by decide) (by decide) rfl rfl (tnX2.1 3 (by decide)) rfl rfl wf_X2_21 rfl dX2_init_33 ?_
  exact gc_ret hC hN dX2_init_36
set_option maxHeartbeats 4000000 in
set_option maxRecDepth 100000 in
theorem cc_6 (l : Launch) (B : Nat) (D : va_G) (K : Nat → ClassId) : CtC l yX1_init cX1_init 1 2 40 15 324 B D K [.ref (B + 20)] cs_41 cm_1 cs_71 cm_1 := by
  refine ct_c (by decide) rfl (Nat.le_of_ble_eq_true rfl) ?_
  intro p e s m args below meth c hC hin hN
  have hC : Cx p s m args meth c D K cX1_init 1 RX1 none := hC
  refine (show GC p l e (rmC 2 40 15 324) s m args below meth c B D K 1 0 0 (MQ below (QC B D K cs_71 cm_1) args s 15 324 (GE B)) cs_41 cm_1 0 [(0, .ref (B + 20))] [] from ?_)
  refine gc_aload_n hC 0 dX1_init_0 rfl rfl ?_
  refine gc_obj hC ⟨wm_X1_3, wob, woc⟩ (Nat.le_of_ble_eq_true rfl) (Nat.le_of_ble_eq_true rfl) dX1_init_1 ?_
  refine gc_aload_n hC 0 dX1_init_4 rfl rfl ?_
  refine gc_bipush hC dX1_init_5 (by decide) ?_
  refine gc_newa hC (atype := .int) 0 20 21 cs_42 (by decide) rfl wa_int (fun _ => rfl) (fun _ h1 h2 => Option.some.inj (h2.symm.trans h1)) cl_41 rfl rfl (by decide) (by decide) (Nat.le_of_ble_eq_true rfl) (Nat.le_of_ble_eq_true rfl) (Nat.le_of_ble_eq_true rfl) dX1_init_7 ?_
  refine gc_putr hC hin cs_43 okX1 tnX1 cg_42_20 0 (by decide) (by decide) rfl rfl (tnX1.1 0 (by decide)) rfl rfl wf_X1_9 rfl dX1_init_9 ?_
  refine gc_aload_n hC 0 dX1_init_12 rfl rfl ?_
  refine gc_bipush hC dX1_init_13 (by decide) ?_
  refine gc_newa hC (atype := .int) 0 30 22 cs_44 (by decide) rfl wa_int (fun _ => rfl) (fun _ h1 h2 => Option.some.inj (h2.symm.trans h1)) cl_43 rfl rfl (by decide) (by decide) (Nat.le_of_ble_eq_true rfl) (Nat.le_of_ble_eq_true rfl) (Nat.le_of_ble_eq_true rfl) dX1_init_15 ?_
  refine gc_putr hC hin cs_45 okX1 tnX1 cg_44_20 1 (by decide) (by decide) rfl rfl (tnX1.1 1 (by decide)) rfl rfl wf_X1_15 rfl dX1_init_17 ?_
  refine gc_aload_n hC 0 dX1_init_20 rfl rfl ?_
  refine gc_bipush hC dX1_init_21 (by decide) ?_
  refine gc_newa hC (atype := .int) 0 20 23 cs_46 (by decide) rfl wa_int (fun _ => rfl) (fun _ h1 h2 => Option.some.inj (h2.symm.trans h1)) cl_45 rfl rfl (by decide) (by decide) (Nat.le_of_ble_eq_true rfl) (Nat.le_of_ble_eq_true rfl) (Nat.le_of_ble_eq_true rfl) dX1_init_23 ?_
  refine gc_putr hC hin cs_47 okX1 tnX1 cg_46_20 2 (by decide) (by decide) rfl rfl (tnX1.1 2 (by decide)) rfl rfl wf_X1_18 rfl dX1_init_25 ?_
  refine gc_aload_n hC 0 dX1_init_28 rfl rfl ?_
  refine gc_bipush hC dX1_init_29 (by decide) ?_
  refine gc_newa hC (atype := .int) 0 20 24 cs_48 (by decide) rfl wa_int (fun _ => rfl) (fun _ h1 h2 => Option.some.inj (h2.symm.trans h1)) cl_47 rfl rfl (by decide) (by decide) (Nat.le_of_ble_eq_true rfl) (Nat.le_of_ble_eq_true rfl) (Nat.le_of_ble_eq_true rfl) dX1_init_31 ?_
  refine gc_putr hC hin cs_49 okX1 tnX1 cg_48_20 3 (by decide) (by decide) rfl rfl (tnX1.1 3 (by decide)) rfl rfl wf_X1_21 rfl dX1_init_33 ?_
  refine gc_aload_n hC 0 dX1_init_36 rfl rfl ?_
  refine gc_bipush hC dX1_init_37 (by decide) ?_
  refine gc_newa hC (atype := .int) 0 20 25 cs_50 (by decide) rfl wa_int (fun _ => rfl) (fun _ h1 h2 => Option.some.inj (h2.symm.trans h1)) cl_49 rfl rfl (by decide) (by decide) (Nat.le_of_ble_eq_true rfl) (Nat.le_of_ble_eq_true rfl) (Nat.le_of_ble_eq_true rfl) dX1_init_39 ?_
  refine gc_putr hC hin cs_51 okX1 tnX1 cg_50_20 4 (by decide) (by decide) rfl rfl (tnX1.1 4 (by decide)) rfl rfl wf_X1_24 rfl dX1_init_41 ?_
  refine gc_aload_n hC 0 dX1_init_44 rfl rfl ?_
  refine gc_bipush hC dX1_init_45 (by decide) ?_
  refine gc_newa hC (atype := .int) 0 20 26 cs_52 (by decide) rfl wa_int (fun _ => rfl) (fun _ h1 h2 => Option.some.inj (h2.symm.trans h1)) cl_51 rfl rfl (by decide) (by decide) (Nat.le_of_ble_eq_true rfl) (Nat.le_of_ble_eq_true rfl) (Nat.le_of_ble_eq_true rfl) dX1_init_47 ?_
  refine gc_putr hC hin cs_53 okX1 tnX1 cg_52_20 5 (by decide) (by decide) rfl rfl (tnX1.1 5 (by decide)) rfl rfl wf_X1_27 rfl dX1_init_49 ?_
  refine gc_aload_n hC 0 dX1_init_52 rfl rfl ?_
  refine gc_bipush hC dX1_init_53 (by decide) ?_
  refine gc_newa hC (atype := .int) 0 20 27 cs_54 (by decide) rfl wa_int (fun _ => rfl) (fun _ h1 h2 => Option.some.inj (h2.symm.trans h1)) cl_53 rfl rfl (by decide) (by decide) (Nat.le_of_ble_eq_true rfl) (Nat.le_of_ble_eq_true rfl) (Nat.le_of_ble_eq_true rfl) dX1_init_55 ?_
  refine gc_putr hC hin cs_55 okX1 tnX1 cg_54_20 6 (by decide) (by decide) rfl rfl (tnX1.1 6 (by decide)) rfl rfl wf_X1_30 rfl dX1_init_57 ?_
  refine gc_aload_n hC 0 dX1_init_60 rfl rfl ?_
  refine gc_bipush hC dX1_init_61 (by decide) ?_
  refine gc_newa hC (atype := .int) 0 20 28 cs_56 (by decide) rfl wa_int (fun _ => rfl) (fun _ h1 h2 => Option.some.inj (h2.symm.trans h1)) cl_55 rfl rfl (by decide) (by decide) (Nat.le_of_ble_eq_true rfl) (Nat.le_of_ble_eq_true rfl) (Nat.le_of_ble_eq_true rfl) dX1_init_63 ?_
  refine gc_putr hC hin cs_57 okX1 tnX1 cg_56_20 7 (by decide) (by decide) rfl rfl (tnX1.1 7 (by decide)) rfl rfl wf_X1_33 rfl dX1_init_65 ?_
  refine gc_aload_n hC 0 dX1_init_68 rfl rfl ?_
  refine gc_bipush hC dX1_init_69 (by decide) ?_
  refine gc_newa hC (atype := .int) 0 30 29 cs_58 (by decide) rfl wa_int (fun _ => rfl) (fun _ h1 h2 => Option.some.inj (h2.symm.trans h1)) cl_57 rfl rfl (by decide) (by decide) (Nat.le_of_ble_eq_true rfl) (Nat.le_of_ble_eq_true rfl) (Nat.le_of_ble_eq_true rfl) dX1_init_71 ?_
  refine gc_putr hC hin cs_59 okX1 tnX1 cg_58_20 8 (by decide) (by decide) rfl rfl (tnX1.1 8 (by decide)) rfl rfl wf_X1_36 rfl dX1_init_73 ?_
  refine gc_aload_n hC 0 dX1_init_76 rfl rfl ?_
  refine gc_bipush hC dX1_init_77 (by decide) ?_
  refine gc_newa hC (atype := .int) 0 30 30 cs_60 (by decide) rfl wa_int (fun _ => rfl) (fun _ h1 h2 => Option.some.inj (h2.symm.trans h1)) cl_59 rfl rfl (by decide) (by decide) (Nat.le_of_ble_eq_true rfl) (Nat.le_of_ble_eq_true rfl) (Nat.le_of_ble_eq_true rfl) dX1_init_79 ?_
  refine gc_putr hC hin cs_61 okX1 tnX1 cg_60_20 9 (by decide) (by decide) rfl rfl (tnX1.1 9 (by decide)) rfl rfl wf_X1_39 rfl dX1_init_81 ?_
  refine gc_aload_n hC 0 dX1_init_84 rfl rfl ?_
  refine gc_new hC 31 cs_62 okX2 tnX2 ⟨wcl_X1_42, win_X2, wii_X2⟩ cl_61 rfl rfl rfl bl_X2 (Nat.le_of_ble_eq_true rfl) (Nat.le_of_ble_eq_true rfl) dX1_init_85 ?_
  refine gc_dup hC dX1_init_88 rfl ?_
  refine gc_callN (host := "RiverRanks") hC hN (sk := [.ref (B + 31), .ref (B + 20)]) [] (cc_7 l B D K) yc_X2_init (by decide +kernel) rfl ⟨(Nat.le_of_ble_eq_true rfl), (Nat.le_of_ble_eq_true rfl), (Nat.le_of_ble_eq_true rfl), (Nat.le_of_ble_eq_true rfl)⟩ rfl (Nat.le_of_ble_eq_true rfl) dX1_init_89 ?_
  refine gc_putr hC hin cs_71 okX1 tnX1 cg_70_20 10 (by decide) (by decide) rfl rfl (tnX1.1 10 (by decide)) rfl rfl wf_X1_45 rfl dX1_init_92 ?_
  exact gc_ret hC hN dX1_init_95
set_option maxHeartbeats 4000000 in
set_option maxRecDepth 100000 in
theorem cc_8 (l : Launch) (B : Nat) (D : va_G) (K : Nat → ClassId) : CtC l yX9_init cX9_init 1 1 20 6 160 B D K [.ref (B + 37)] cs_74 cm_1 cs_86 cm_1 := by
  refine ct_c (by decide) rfl (Nat.le_of_ble_eq_true rfl) ?_
  intro p e s m args below meth c hC hin hN
  have hC : Cx p s m args meth c D K cX9_init 1 RX9 none := hC
  refine (show GC p l e (rmC 1 20 6 160) s m args below meth c B D K 1 0 0 (MQ below (QC B D K cs_86 cm_1) args s 6 160 (GE B)) cs_74 cm_1 0 [(0, .ref (B + 37))] [] from ?_)
  refine gc_aload_n hC 0 dX9_init_0 rfl rfl ?_
  refine gc_obj hC ⟨wm_X9_3, wob, woc⟩ (Nat.le_of_ble_eq_true rfl) (Nat.le_of_ble_eq_true rfl) dX9_init_1 ?_
  refine gc_aload_n hC 0 dX9_init_4 rfl rfl ?_
  refine gc_bipush hC dX9_init_5 (by decide) ?_
  refine gc_newa hC (atype := .int) 0 20 38 cs_75 (by decide) rfl wa_int (fun _ => rfl) (fun _ h1 h2 => Option.some.inj (h2.symm.trans h1)) cl_74 rfl rfl (by decide) (by decide) (Nat.le_of_ble_eq_true rfl) (Nat.le_of_ble_eq_true rfl) (Nat.le_of_ble_eq_true rfl) dX9_init_7 ?_
  refine gc_putr hC hin cs_76 okX9 tnX9 cg_75_37 0 (by decide) (by decide) rfl rfl (tnX9.1 0 (by decide)) rfl rfl wf_X9_9 rfl dX9_init_9 ?_
  refine gc_aload_n hC 0 dX9_init_12 rfl rfl ?_
  refine gc_bipush hC dX9_init_13 (by decide) ?_
  refine gc_newa hC (atype := .int) 0 20 39 cs_77 (by decide) rfl wa_int (fun _ => rfl) (fun _ h1 h2 => Option.some.inj (h2.symm.trans h1)) cl_76 rfl rfl (by decide) (by decide) (Nat.le_of_ble_eq_true rfl) (Nat.le_of_ble_eq_true rfl) (Nat.le_of_ble_eq_true rfl) dX9_init_15 ?_
  refine gc_putr hC hin cs_78 okX9 tnX9 cg_77_37 1 (by decide) (by decide) rfl rfl (tnX9.1 1 (by decide)) rfl rfl wf_X9_15 rfl dX9_init_17 ?_
  refine gc_aload_n hC 0 dX9_init_20 rfl rfl ?_
  refine gc_bipush hC dX9_init_21 (by decide) ?_
  refine gc_newa hC (atype := .int) 0 30 40 cs_79 (by decide) rfl wa_int (fun _ => rfl) (fun _ h1 h2 => Option.some.inj (h2.symm.trans h1)) cl_78 rfl rfl (by decide) (by decide) (Nat.le_of_ble_eq_true rfl) (Nat.le_of_ble_eq_true rfl) (Nat.le_of_ble_eq_true rfl) dX9_init_23 ?_
  refine gc_putr hC hin cs_80 okX9 tnX9 cg_79_37 2 (by decide) (by decide) rfl rfl (tnX9.1 2 (by decide)) rfl rfl wf_X9_18 rfl dX9_init_25 ?_
  refine gc_aload_n hC 0 dX9_init_28 rfl rfl ?_
  refine gc_bipush hC dX9_init_29 (by decide) ?_
  refine gc_newa hC (atype := .int) 0 30 41 cs_81 (by decide) rfl wa_int (fun _ => rfl) (fun _ h1 h2 => Option.some.inj (h2.symm.trans h1)) cl_80 rfl rfl (by decide) (by decide) (Nat.le_of_ble_eq_true rfl) (Nat.le_of_ble_eq_true rfl) (Nat.le_of_ble_eq_true rfl) dX9_init_31 ?_
  refine gc_putr hC hin cs_82 okX9 tnX9 cg_81_37 3 (by decide) (by decide) rfl rfl (tnX9.1 3 (by decide)) rfl rfl wf_X9_21 rfl dX9_init_33 ?_
  refine gc_aload_n hC 0 dX9_init_36 rfl rfl ?_
  refine gc_bipush hC dX9_init_37 (by decide) ?_
  refine gc_newa hC (atype := .int) 0 30 42 cs_83 (by decide) rfl wa_int (fun _ => rfl) (fun _ h1 h2 => Option.some.inj (h2.symm.trans h1)) cl_82 rfl rfl (by decide) (by decide) (Nat.le_of_ble_eq_true rfl) (Nat.le_of_ble_eq_true rfl) (Nat.le_of_ble_eq_true rfl) dX9_init_39 ?_
  refine gc_putr hC hin cs_84 okX9 tnX9 cg_83_37 4 (by decide) (by decide) rfl rfl (tnX9.1 4 (by decide)) rfl rfl wf_X9_24 rfl dX9_init_41 ?_
  refine gc_aload_n hC 0 dX9_init_44 rfl rfl ?_
  refine gc_bipush hC dX9_init_45 (by decide) ?_
  refine gc_newa hC (atype := .int) 0 30 43 cs_85 (by decide) rfl wa_int (fun _ => rfl) (fun _ h1 h2 => Option.some.inj (h2.symm.trans h1)) cl_84 rfl rfl (by decide) (by decide) (Nat.le_of_ble_eq_true rfl) (Nat.le_of_ble_eq_true rfl) (Nat.le_of_ble_eq_true rfl) dX9_init_47 ?_
  refine gc_putr hC hin cs_86 okX9 tnX9 cg_85_37 5 (by decide) (by decide) rfl rfl (tnX9.1 5 (by decide)) rfl rfl wf_X9_27 rfl dX9_init_49 ?_
  exact gc_ret hC hN dX9_init_52
set_option maxHeartbeats 4000000 in
set_option maxRecDepth 100000 in
theorem cc_9 (l : Launch) (B : Nat) (D : va_G) (K : Nat → ClassId) : CtC l yX9_init cX9_init 1 1 20 6 160 B D K [.ref (B + 44)] cs_88 cm_1 cs_100 cm_1 := by
  refine ct_c (by decide) rfl (Nat.le_of_ble_eq_true rfl) ?_
  intro p e s m args below meth c hC hin hN
  have hC : Cx p s m args meth c D K cX9_init 1 RX9 none := hC
  refine (show GC p l e (rmC 1 20 6 160) s m args below meth c B D K 1 0 0 (MQ below (QC B D K cs_100 cm_1) args s 6 160 (GE B)) cs_88 cm_1 0 [(0, .ref (B + 44))] [] from ?_)
  refine gc_aload_n hC 0 dX9_init_0 rfl rfl ?_
  refine gc_obj hC ⟨wm_X9_3, wob, woc⟩ (Nat.le_of_ble_eq_true rfl) (Nat.le_of_ble_eq_true rfl) dX9_init_1 ?_
  refine gc_aload_n hC 0 dX9_init_4 rfl rfl ?_
  refine gc_bipush hC dX9_init_5 (by decide) ?_
  refine gc_newa hC (atype := .int) 0 20 45 cs_89 (by decide) rfl wa_int (fun _ => rfl) (fun _ h1 h2 => Option.some.inj (h2.symm.trans h1)) cl_88 rfl rfl (by decide) (by decide) (Nat.le_of_ble_eq_true rfl) (Nat.le_of_ble_eq_true rfl) (Nat.le_of_ble_eq_true rfl) dX9_init_7 ?_
  refine gc_putr hC hin cs_90 okX9 tnX9 cg_89_44 0 (by decide) (by decide) rfl rfl (tnX9.1 0 (by decide)) rfl rfl wf_X9_9 rfl dX9_init_9 ?_
  refine gc_aload_n hC 0 dX9_init_12 rfl rfl ?_
  refine gc_bipush hC dX9_init_13 (by decide) ?_
  refine gc_newa hC (atype := .int) 0 20 46 cs_91 (by decide) rfl wa_int (fun _ => rfl) (fun _ h1 h2 => Option.some.inj (h2.symm.trans h1)) cl_90 rfl rfl (by decide) (by decide) (Nat.le_of_ble_eq_true rfl) (Nat.le_of_ble_eq_true rfl) (Nat.le_of_ble_eq_true rfl) dX9_init_15 ?_
  refine gc_putr hC hin cs_92 okX9 tnX9 cg_91_44 1 (by decide) (by decide) rfl rfl (tnX9.1 1 (by decide)) rfl rfl wf_X9_15 rfl dX9_init_17 ?_
  refine gc_aload_n hC 0 dX9_init_20 rfl rfl ?_
  refine gc_bipush hC dX9_init_21 (by decide) ?_
  refine gc_newa hC (atype := .int) 0 30 47 cs_93 (by decide) rfl wa_int (fun _ => rfl) (fun _ h1 h2 => Option.some.inj (h2.symm.trans h1)) cl_92 rfl rfl (by decide) (by decide) (Nat.le_of_ble_eq_true rfl) (Nat.le_of_ble_eq_true rfl) (Nat.le_of_ble_eq_true rfl) dX9_init_23 ?_
  refine gc_putr hC hin cs_94 okX9 tnX9 cg_93_44 2 (by decide) (by decide) rfl rfl (tnX9.1 2 (by decide)) rfl rfl wf_X9_18 rfl dX9_init_25 ?_
  refine gc_aload_n hC 0 dX9_init_28 rfl rfl ?_
  refine gc_bipush hC dX9_init_29 (by decide) ?_
  refine gc_newa hC (atype := .int) 0 30 48 cs_95 (by decide) rfl wa_int (fun _ => rfl) (fun _ h1 h2 => Option.some.inj (h2.symm.trans h1)) cl_94 rfl rfl (by decide) (by decide) (Nat.le_of_ble_eq_true rfl) (Nat.le_of_ble_eq_true rfl) (Nat.le_of_ble_eq_true rfl) dX9_init_31 ?_
  refine gc_putr hC hin cs_96 okX9 tnX9 cg_95_44 3 (by decide) (by decide) rfl rfl (tnX9.1 3 (by decide)) rfl rfl wf_X9_21 rfl dX9_init_33 ?_
  refine gc_aload_n hC 0 dX9_init_36 rfl rfl ?_
  refine gc_bipush hC dX9_init_37 (by decide) ?_
  refine gc_newa hC (atype := .int) 0 30 49 cs_97 (by decide) rfl wa_int (fun _ => rfl) (fun _ h1 h2 => Option.some.inj (h2.symm.trans h1)) cl_96 rfl rfl (by decide) (by decide) (Nat.le_of_ble_eq_true rfl) (Nat.le_of_ble_eq_true rfl) (Nat.le_of_ble_eq_true rfl) dX9_init_39 ?_
  refine gc_putr hC hin cs_98 okX9 tnX9 cg_97_44 4 (by decide) (by decide) rfl rfl (tnX9.1 4 (by decide)) rfl rfl wf_X9_24 rfl dX9_init_41 ?_
  refine gc_aload_n hC 0 dX9_init_44 rfl rfl ?_
  refine gc_bipush hC dX9_init_45 (by decide) ?_
  refine gc_newa hC (atype := .int) 0 30 50 cs_99 (by decide) rfl wa_int (fun _ => rfl) (fun _ h1 h2 => Option.some.inj (h2.symm.trans h1)) cl_98 rfl rfl (by decide) (by decide) (Nat.le_of_ble_eq_true rfl) (Nat.le_of_ble_eq_true rfl) (Nat.le_of_ble_eq_true rfl) dX9_init_47 ?_
  refine gc_putr hC hin cs_100 okX9 tnX9 cg_99_44 5 (by decide) (by decide) rfl rfl (tnX9.1 5 (by decide)) rfl rfl wf_X9_27 rfl dX9_init_49 ?_
  exact gc_ret hC hN dX9_init_52
set_option maxHeartbeats 4000000 in
set_option maxRecDepth 100000 in
theorem cc_10 (l : Launch) (B : Nat) (D : va_G) (K : Nat → ClassId) : CtC l yX9_init cX9_init 1 1 20 6 160 B D K [.ref (B + 51)] cs_102 cm_1 cs_114 cm_1 := by
  refine ct_c (by decide) rfl (Nat.le_of_ble_eq_true rfl) ?_
  intro p e s m args below meth c hC hin hN
  have hC : Cx p s m args meth c D K cX9_init 1 RX9 none := hC
  refine (show GC p l e (rmC 1 20 6 160) s m args below meth c B D K 1 0 0 (MQ below (QC B D K cs_114 cm_1) args s 6 160 (GE B)) cs_102 cm_1 0 [(0, .ref (B + 51))] [] from ?_)
  refine gc_aload_n hC 0 dX9_init_0 rfl rfl ?_
  refine gc_obj hC ⟨wm_X9_3, wob, woc⟩ (Nat.le_of_ble_eq_true rfl) (Nat.le_of_ble_eq_true rfl) dX9_init_1 ?_
  refine gc_aload_n hC 0 dX9_init_4 rfl rfl ?_
  refine gc_bipush hC dX9_init_5 (by decide) ?_
  refine gc_newa hC (atype := .int) 0 20 52 cs_103 (by decide) rfl wa_int (fun _ => rfl) (fun _ h1 h2 => Option.some.inj (h2.symm.trans h1)) cl_102 rfl rfl (by decide) (by decide) (Nat.le_of_ble_eq_true rfl) (Nat.le_of_ble_eq_true rfl) (Nat.le_of_ble_eq_true rfl) dX9_init_7 ?_
  refine gc_putr hC hin cs_104 okX9 tnX9 cg_103_51 0 (by decide) (by decide) rfl rfl (tnX9.1 0 (by decide)) rfl rfl wf_X9_9 rfl dX9_init_9 ?_
  refine gc_aload_n hC 0 dX9_init_12 rfl rfl ?_
  refine gc_bipush hC dX9_init_13 (by decide) ?_
  refine gc_newa hC (atype := .int) 0 20 53 cs_105 (by decide) rfl wa_int (fun _ => rfl) (fun _ h1 h2 => Option.some.inj (h2.symm.trans h1)) cl_104 rfl rfl (by decide) (by decide) (Nat.le_of_ble_eq_true rfl) (Nat.le_of_ble_eq_true rfl) (Nat.le_of_ble_eq_true rfl) dX9_init_15 ?_
  refine gc_putr hC hin cs_106 okX9 tnX9 cg_105_51 1 (by decide) (by decide) rfl rfl (tnX9.1 1 (by decide)) rfl rfl wf_X9_15 rfl dX9_init_17 ?_
  refine gc_aload_n hC 0 dX9_init_20 rfl rfl ?_
  refine gc_bipush hC dX9_init_21 (by decide) ?_
  refine gc_newa hC (atype := .int) 0 30 54 cs_107 (by decide) rfl wa_int (fun _ => rfl) (fun _ h1 h2 => Option.some.inj (h2.symm.trans h1)) cl_106 rfl rfl (by decide) (by decide) (Nat.le_of_ble_eq_true rfl) (Nat.le_of_ble_eq_true rfl) (Nat.le_of_ble_eq_true rfl) dX9_init_23 ?_
  refine gc_putr hC hin cs_108 okX9 tnX9 cg_107_51 2 (by decide) (by decide) rfl rfl (tnX9.1 2 (by decide)) rfl rfl wf_X9_18 rfl dX9_init_25 ?_
  refine gc_aload_n hC 0 dX9_init_28 rfl rfl ?_
  refine gc_bipush hC dX9_init_29 (by decide) ?_
  refine gc_newa hC (atype := .int) 0 30 55 cs_109 (by decide) rfl wa_int (fun _ => rfl) (fun _ h1 h2 => Option.some.inj (h2.symm.trans h1)) cl_108 rfl rfl (by decide) (by decide) (Nat.le_of_ble_eq_true rfl) (Nat.le_of_ble_eq_true rfl) (Nat.le_of_ble_eq_true rfl) dX9_init_31 ?_
  refine gc_putr hC hin cs_110 okX9 tnX9 cg_109_51 3 (by decide) (by decide) rfl rfl (tnX9.1 3 (by decide)) rfl rfl wf_X9_21 rfl dX9_init_33 ?_
  refine gc_aload_n hC 0 dX9_init_36 rfl rfl ?_
  refine gc_bipush hC dX9_init_37 (by decide) ?_
  refine gc_newa hC (atype := .int) 0 30 56 cs_111 (by decide) rfl wa_int (fun _ => rfl) (fun _ h1 h2 => Option.some.inj (h2.symm.trans h1)) cl_110 rfl rfl (by decide) (by decide) (Nat.le_of_ble_eq_true rfl) (Nat.le_of_ble_eq_true rfl) (Nat.le_of_ble_eq_true rfl) dX9_init_39 ?_
  refine gc_putr hC hin cs_112 okX9 tnX9 cg_111_51 4 (by decide) (by decide) rfl rfl (tnX9.1 4 (by decide)) rfl rfl wf_X9_24 rfl dX9_init_41 ?_
  refine gc_aload_n hC 0 dX9_init_44 rfl rfl ?_
  refine gc_bipush hC dX9_init_45 (by decide) ?_
  refine gc_newa hC (atype := .int) 0 30 57 cs_113 (by decide) rfl wa_int (fun _ => rfl) (fun _ h1 h2 => Option.some.inj (h2.symm.trans h1)) cl_112 rfl rfl (by decide) (by decide) (Nat.le_of_ble_eq_true rfl) (Nat.le_of_ble_eq_true rfl) (Nat.le_of_ble_eq_true rfl) dX9_init_47 ?_
  refine gc_putr hC hin cs_114 okX9 tnX9 cg_113_51 5 (by decide) (by decide) rfl rfl (tnX9.1 5 (by decide)) rfl rfl wf_X9_27 rfl dX9_init_49 ?_
  exact gc_ret hC hN dX9_init_52
set_option maxHeartbeats 4000000 in
set_option maxRecDepth 100000 in
theorem cc_11 (l : Launch) (B : Nat) (D : va_G) (K : Nat → ClassId) : CtC l yX3_init cX3_init 1 1 20 1 640 B D K [.ref (B + 58)] cs_117 cm_1 cs_119 cm_1 := by
  refine ct_c (by decide) rfl (Nat.le_of_ble_eq_true rfl) ?_
  intro p e s m args below meth c hC hin hN
  have hC : Cx p s m args meth c D K cX3_init 1 RX3 none := hC
  refine (show GC p l e (rmC 1 20 1 640) s m args below meth c B D K 1 0 0 (MQ below (QC B D K cs_119 cm_1) args s 1 640 (GE B)) cs_117 cm_1 0 [(0, .ref (B + 58))] [] from ?_)
  refine gc_aload_n hC 0 dX3_init_0 rfl rfl ?_
  refine gc_obj hC ⟨wm_X3_3, wob, woc⟩ (Nat.le_of_ble_eq_true rfl) (Nat.le_of_ble_eq_true rfl) dX3_init_1 ?_
  refine gc_aload_n hC 0 dX3_init_4 rfl rfl ?_
  refine gc_sipush hC dX3_init_5 (by decide) ?_
  refine gc_newa hC (atype := .int) 0 640 59 cs_118 (by decide) rfl wa_int (fun _ => rfl) (fun _ h1 h2 => Option.some.inj (h2.symm.trans h1)) cl_117 rfl rfl (by decide) (by decide) (Nat.le_of_ble_eq_true rfl) (Nat.le_of_ble_eq_true rfl) (Nat.le_of_ble_eq_true rfl) dX3_init_8 ?_
  refine gc_putr hC hin cs_119 okX3 tnX3 cg_118_58 2 (by decide) (by decide) rfl rfl (tnX3.1 2 (by decide)) rfl rfl wf_X3_11 rfl dX3_init_10 ?_
  exact gc_ret hC hN dX3_init_13
set_option maxHeartbeats 4000000 in
set_option maxRecDepth 100000 in
theorem cc_12 (l : Launch) (B : Nat) (D : va_G) (K : Nat → ClassId) : CtC l yX0_init cX0_init 1 1 20 2 124 B D K [.ref (B + 60)] cs_121 cm_1 cs_125 cm_1 := by
  refine ct_c (by decide) rfl (Nat.le_of_ble_eq_true rfl) ?_
  intro p e s m args below meth c hC hin hN
  have hC : Cx p s m args meth c D K cX0_init 1 RX0 none := hC
  refine (show GC p l e (rmC 1 20 2 124) s m args below meth c B D K 1 0 0 (MQ below (QC B D K cs_125 cm_1) args s 2 124 (GE B)) cs_121 cm_1 0 [(0, .ref (B + 60))] [] from ?_)
  refine gc_aload_n hC 0 dX0_init_0 rfl rfl ?_
  refine gc_obj hC ⟨wm_X0_3, wob, woc⟩ (Nat.le_of_ble_eq_true rfl) (Nat.le_of_ble_eq_true rfl) dX0_init_1 ?_
  refine gc_aload_n hC 0 dX0_init_4 rfl rfl ?_
  refine gc_iconst hC dX0_init_5 ?_
  refine gc_newa hC (atype := .int) 0 4 61 cs_122 (by decide) rfl wa_int (fun _ => rfl) (fun _ h1 h2 => Option.some.inj (h2.symm.trans h1)) cl_121 rfl rfl (by decide) (by decide) (Nat.le_of_ble_eq_true rfl) (Nat.le_of_ble_eq_true rfl) (Nat.le_of_ble_eq_true rfl) dX0_init_6 ?_
  refine gc_putr hC hin cs_123 okX0 tnX0 cg_122_60 2 (by decide) (by decide) rfl rfl (tnX0.1 2 (by decide)) rfl rfl wf_X0_9 rfl dX0_init_8 ?_
  refine gc_aload_n hC 0 dX0_init_11 rfl rfl ?_
  refine gc_bipush hC dX0_init_12 (by decide) ?_
  refine gc_newa hC (atype := .int) 0 120 62 cs_124 (by decide) rfl wa_int (fun _ => rfl) (fun _ h1 h2 => Option.some.inj (h2.symm.trans h1)) cl_123 rfl rfl (by decide) (by decide) (Nat.le_of_ble_eq_true rfl) (Nat.le_of_ble_eq_true rfl) (Nat.le_of_ble_eq_true rfl) dX0_init_14 ?_
  refine gc_putr hC hin cs_125 okX0 tnX0 cg_124_60 3 (by decide) (by decide) rfl rfl (tnX0.1 3 (by decide)) rfl rfl wf_X0_15 rfl dX0_init_16 ?_
  exact gc_ret hC hN dX0_init_19
set_option maxHeartbeats 4000000 in
set_option maxRecDepth 100000 in
theorem cc_13 (l : Launch) (B : Nat) (D : va_G) (K : Nat → ClassId) : CtC l yX8_init cX8_init 1 1 20 2 24 B D K [.ref (B + 63)] cs_127 cm_1 cs_131 cm_1 := by
  refine ct_c (by decide) rfl (Nat.le_of_ble_eq_true rfl) ?_
  intro p e s m args below meth c hC hin hN
  have hC : Cx p s m args meth c D K cX8_init 1 RX8 none := hC
  refine (show GC p l e (rmC 1 20 2 24) s m args below meth c B D K 1 0 0 (MQ below (QC B D K cs_131 cm_1) args s 2 24 (GE B)) cs_127 cm_1 0 [(0, .ref (B + 63))] [] from ?_)
  refine gc_aload_n hC 0 dX8_init_0 rfl rfl ?_
  refine gc_obj hC ⟨wm_X8_3, wob, woc⟩ (Nat.le_of_ble_eq_true rfl) (Nat.le_of_ble_eq_true rfl) dX8_init_1 ?_
  refine gc_aload_n hC 0 dX8_init_4 rfl rfl ?_
  refine gc_bipush hC dX8_init_5 (by decide) ?_
  refine gc_newa hC (atype := .int) 0 12 64 cs_128 (by decide) rfl wa_int (fun _ => rfl) (fun _ h1 h2 => Option.some.inj (h2.symm.trans h1)) cl_127 rfl rfl (by decide) (by decide) (Nat.le_of_ble_eq_true rfl) (Nat.le_of_ble_eq_true rfl) (Nat.le_of_ble_eq_true rfl) dX8_init_7 ?_
  refine gc_putr hC hin cs_129 okX8 tnX8 cg_128_63 1 (by decide) (by decide) rfl rfl (tnX8.1 1 (by decide)) rfl rfl wf_X8_9 rfl dX8_init_9 ?_
  refine gc_aload_n hC 0 dX8_init_12 rfl rfl ?_
  refine gc_bipush hC dX8_init_13 (by decide) ?_
  refine gc_newa hC (atype := .int) 0 12 65 cs_130 (by decide) rfl wa_int (fun _ => rfl) (fun _ h1 h2 => Option.some.inj (h2.symm.trans h1)) cl_129 rfl rfl (by decide) (by decide) (Nat.le_of_ble_eq_true rfl) (Nat.le_of_ble_eq_true rfl) (Nat.le_of_ble_eq_true rfl) dX8_init_15 ?_
  refine gc_putr hC hin cs_131 okX8 tnX8 cg_130_63 2 (by decide) (by decide) rfl rfl (tnX8.1 2 (by decide)) rfl rfl wf_X8_15 rfl dX8_init_17 ?_
  exact gc_ret hC hN dX8_init_20
set_option maxHeartbeats 4000000 in
set_option maxRecDepth 100000 in
theorem cc_14 (l : Launch) (B : Nat) (D : va_G) (K : Nat → ClassId) : CtC l yX4_init cX4_init 1 1 20 1 153 B D K [.ref (B + 66)] cs_133 cm_1 cs_135 cm_1 := by
  refine ct_c (by decide) rfl (Nat.le_of_ble_eq_true rfl) ?_
  intro p e s m args below meth c hC hin hN
  have hC : Cx p s m args meth c D K cX4_init 1 RX4 none := hC
  refine (show GC p l e (rmC 1 20 1 153) s m args below meth c B D K 1 0 0 (MQ below (QC B D K cs_135 cm_1) args s 1 153 (GE B)) cs_133 cm_1 0 [(0, .ref (B + 66))] [] from ?_)
  refine gc_aload_n hC 0 dX4_init_0 rfl rfl ?_
  refine gc_obj hC ⟨wm_X4_3, wob, woc⟩ (Nat.le_of_ble_eq_true rfl) (Nat.le_of_ble_eq_true rfl) dX4_init_1 ?_
  refine gc_aload_n hC 0 dX4_init_4 rfl rfl ?_
  refine gc_sipush hC dX4_init_5 (by decide) ?_
  refine gc_newa hC (atype := .int) 0 153 67 cs_134 (by decide) rfl wa_int (fun _ => rfl) (fun _ h1 h2 => Option.some.inj (h2.symm.trans h1)) cl_133 rfl rfl (by decide) (by decide) (Nat.le_of_ble_eq_true rfl) (Nat.le_of_ble_eq_true rfl) (Nat.le_of_ble_eq_true rfl) dX4_init_8 ?_
  refine gc_putr hC hin cs_135 okX4 tnX4 cg_134_66 1 (by decide) (by decide) rfl rfl (tnX4.1 1 (by decide)) rfl rfl wf_X4_9 rfl dX4_init_10 ?_
  exact gc_ret hC hN dX4_init_13
set_option maxHeartbeats 4000000 in
set_option maxRecDepth 100000 in
theorem cc_15 (l : Launch) (B : Nat) (D : va_G) (K : Nat → ClassId) : CtC l yX7_init cX7_init 1 1 20 3 70 B D K [.ref (B + 68)] cs_137 cm_1 cs_143 cm_1 := by
  refine ct_c (by decide) rfl (Nat.le_of_ble_eq_true rfl) ?_
  intro p e s m args below meth c hC hin hN
  have hC : Cx p s m args meth c D K cX7_init 1 RX7 none := hC
  refine (show GC p l e (rmC 1 20 3 70) s m args below meth c B D K 1 0 0 (MQ below (QC B D K cs_143 cm_1) args s 3 70 (GE B)) cs_137 cm_1 0 [(0, .ref (B + 68))] [] from ?_)
  refine gc_aload_n hC 0 dX7_init_0 rfl rfl ?_
  refine gc_obj hC ⟨wm_X7_3, wob, woc⟩ (Nat.le_of_ble_eq_true rfl) (Nat.le_of_ble_eq_true rfl) dX7_init_1 ?_
  refine gc_aload_n hC 0 dX7_init_4 rfl rfl ?_
  refine gc_bipush hC dX7_init_5 (by decide) ?_
  refine gc_newa hC (atype := .int) 0 20 69 cs_138 (by decide) rfl wa_int (fun _ => rfl) (fun _ h1 h2 => Option.some.inj (h2.symm.trans h1)) cl_137 rfl rfl (by decide) (by decide) (Nat.le_of_ble_eq_true rfl) (Nat.le_of_ble_eq_true rfl) (Nat.le_of_ble_eq_true rfl) dX7_init_7 ?_
  refine gc_putr hC hin cs_139 okX7 tnX7 cg_138_68 0 (by decide) (by decide) rfl rfl (tnX7.1 0 (by decide)) rfl rfl wf_X7_9 rfl dX7_init_9 ?_
  refine gc_aload_n hC 0 dX7_init_12 rfl rfl ?_
  refine gc_bipush hC dX7_init_13 (by decide) ?_
  refine gc_newa hC (atype := .int) 0 30 70 cs_140 (by decide) rfl wa_int (fun _ => rfl) (fun _ h1 h2 => Option.some.inj (h2.symm.trans h1)) cl_139 rfl rfl (by decide) (by decide) (Nat.le_of_ble_eq_true rfl) (Nat.le_of_ble_eq_true rfl) (Nat.le_of_ble_eq_true rfl) dX7_init_15 ?_
  refine gc_putr hC hin cs_141 okX7 tnX7 cg_140_68 1 (by decide) (by decide) rfl rfl (tnX7.1 1 (by decide)) rfl rfl wf_X7_15 rfl dX7_init_17 ?_
  refine gc_aload_n hC 0 dX7_init_20 rfl rfl ?_
  refine gc_bipush hC dX7_init_21 (by decide) ?_
  refine gc_newa hC (atype := .int) 0 20 71 cs_142 (by decide) rfl wa_int (fun _ => rfl) (fun _ h1 h2 => Option.some.inj (h2.symm.trans h1)) cl_141 rfl rfl (by decide) (by decide) (Nat.le_of_ble_eq_true rfl) (Nat.le_of_ble_eq_true rfl) (Nat.le_of_ble_eq_true rfl) dX7_init_23 ?_
  refine gc_putr hC hin cs_143 okX7 tnX7 cg_142_68 2 (by decide) (by decide) rfl rfl (tnX7.1 2 (by decide)) rfl rfl wf_X7_18 rfl dX7_init_25 ?_
  exact gc_ret hC hN dX7_init_28
set_option maxHeartbeats 4000000 in
set_option maxRecDepth 100000 in
theorem cc_16 (l : Launch) (B : Nat) (D : va_G) (K : Nat → ClassId) : CtC l yX5_init cX5_init 1 1 20 5 150 B D K [.ref (B + 72)] cs_145 cm_1 cs_155 cm_1 := by
  refine ct_c (by decide) rfl (Nat.le_of_ble_eq_true rfl) ?_
  intro p e s m args below meth c hC hin hN
  have hC : Cx p s m args meth c D K cX5_init 1 RX5 none := hC
  refine (show GC p l e (rmC 1 20 5 150) s m args below meth c B D K 1 0 0 (MQ below (QC B D K cs_155 cm_1) args s 5 150 (GE B)) cs_145 cm_1 0 [(0, .ref (B + 72))] [] from ?_)
  refine gc_aload_n hC 0 dX5_init_0 rfl rfl ?_
  refine gc_obj hC ⟨wm_X5_3, wob, woc⟩ (Nat.le_of_ble_eq_true rfl) (Nat.le_of_ble_eq_true rfl) dX5_init_1 ?_
  refine gc_aload_n hC 0 dX5_init_4 rfl rfl ?_
  refine gc_bipush hC dX5_init_5 (by decide) ?_
  refine gc_newa hC (atype := .int) 0 30 73 cs_146 (by decide) rfl wa_int (fun _ => rfl) (fun _ h1 h2 => Option.some.inj (h2.symm.trans h1)) cl_145 rfl rfl (by decide) (by decide) (Nat.le_of_ble_eq_true rfl) (Nat.le_of_ble_eq_true rfl) (Nat.le_of_ble_eq_true rfl) dX5_init_7 ?_
  refine gc_putr hC hin cs_147 okX5 tnX5 cg_146_72 2 (by decide) (by decide) rfl rfl (tnX5.1 2 (by decide)) rfl rfl wf_X5_9 rfl dX5_init_9 ?_
  refine gc_aload_n hC 0 dX5_init_12 rfl rfl ?_
  refine gc_bipush hC dX5_init_13 (by decide) ?_
  refine gc_newa hC (atype := .int) 0 30 74 cs_148 (by decide) rfl wa_int (fun _ => rfl) (fun _ h1 h2 => Option.some.inj (h2.symm.trans h1)) cl_147 rfl rfl (by decide) (by decide) (Nat.le_of_ble_eq_true rfl) (Nat.le_of_ble_eq_true rfl) (Nat.le_of_ble_eq_true rfl) dX5_init_15 ?_
  refine gc_putr hC hin cs_149 okX5 tnX5 cg_148_72 3 (by decide) (by decide) rfl rfl (tnX5.1 3 (by decide)) rfl rfl wf_X5_15 rfl dX5_init_17 ?_
  refine gc_aload_n hC 0 dX5_init_20 rfl rfl ?_
  refine gc_bipush hC dX5_init_21 (by decide) ?_
  refine gc_newa hC (atype := .int) 0 30 75 cs_150 (by decide) rfl wa_int (fun _ => rfl) (fun _ h1 h2 => Option.some.inj (h2.symm.trans h1)) cl_149 rfl rfl (by decide) (by decide) (Nat.le_of_ble_eq_true rfl) (Nat.le_of_ble_eq_true rfl) (Nat.le_of_ble_eq_true rfl) dX5_init_23 ?_
  refine gc_putr hC hin cs_151 okX5 tnX5 cg_150_72 4 (by decide) (by decide) rfl rfl (tnX5.1 4 (by decide)) rfl rfl wf_X5_18 rfl dX5_init_25 ?_
  refine gc_aload_n hC 0 dX5_init_28 rfl rfl ?_
  refine gc_bipush hC dX5_init_29 (by decide) ?_
  refine gc_newa hC (atype := .int) 0 30 76 cs_152 (by decide) rfl wa_int (fun _ => rfl) (fun _ h1 h2 => Option.some.inj (h2.symm.trans h1)) cl_151 rfl rfl (by decide) (by decide) (Nat.le_of_ble_eq_true rfl) (Nat.le_of_ble_eq_true rfl) (Nat.le_of_ble_eq_true rfl) dX5_init_31 ?_
  refine gc_putr hC hin cs_153 okX5 tnX5 cg_152_72 5 (by decide) (by decide) rfl rfl (tnX5.1 5 (by decide)) rfl rfl wf_X5_21 rfl dX5_init_33 ?_
  refine gc_aload_n hC 0 dX5_init_36 rfl rfl ?_
  refine gc_bipush hC dX5_init_37 (by decide) ?_
  refine gc_newa hC (atype := .int) 0 30 77 cs_154 (by decide) rfl wa_int (fun _ => rfl) (fun _ h1 h2 => Option.some.inj (h2.symm.trans h1)) cl_153 rfl rfl (by decide) (by decide) (Nat.le_of_ble_eq_true rfl) (Nat.le_of_ble_eq_true rfl) (Nat.le_of_ble_eq_true rfl) dX5_init_39 ?_
  refine gc_putr hC hin cs_155 okX5 tnX5 cg_154_72 6 (by decide) (by decide) rfl rfl (tnX5.1 6 (by decide)) rfl rfl wf_X5_24 rfl dX5_init_41 ?_
  exact gc_ret hC hN dX5_init_44
set_option maxHeartbeats 4000000 in
set_option maxRecDepth 100000 in
theorem cc_18 (l : Launch) (B : Nat) (D : va_G) (K : Nat → ClassId) : CtC l yX2_init cX2_init 1 1 20 4 90 B D K [.ref (B + 89)] cs_178 cm_1 cs_186 cm_1 := by
  refine ct_c (by decide) rfl (Nat.le_of_ble_eq_true rfl) ?_
  intro p e s m args below meth c hC hin hN
  have hC : Cx p s m args meth c D K cX2_init 1 RX2 none := hC
  refine (show GC p l e (rmC 1 20 4 90) s m args below meth c B D K 1 0 0 (MQ below (QC B D K cs_186 cm_1) args s 4 90 (GE B)) cs_178 cm_1 0 [(0, .ref (B + 89))] [] from ?_)
  refine gc_aload_n hC 0 dX2_init_0 rfl rfl ?_
  refine gc_obj hC ⟨wm_X2_3, wob, woc⟩ (Nat.le_of_ble_eq_true rfl) (Nat.le_of_ble_eq_true rfl) dX2_init_1 ?_
  refine gc_aload_n hC 0 dX2_init_4 rfl rfl ?_
  refine gc_bipush hC dX2_init_5 (by decide) ?_
  refine gc_newa hC (atype := .int) 0 30 90 cs_179 (by decide) rfl wa_int (fun _ => rfl) (fun _ h1 h2 => Option.some.inj (h2.symm.trans h1)) cl_178 rfl rfl (by decide) (by decide) (Nat.le_of_ble_eq_true rfl) (Nat.le_of_ble_eq_true rfl) (Nat.le_of_ble_eq_true rfl) dX2_init_7 ?_
  refine gc_putr hC hin cs_180 okX2 tnX2 cg_179_89 0 (by decide) (by decide) rfl rfl (tnX2.1 0 (by decide)) rfl rfl wf_X2_9 rfl dX2_init_9 ?_
  refine gc_aload_n hC 0 dX2_init_12 rfl rfl ?_
  refine gc_bipush hC dX2_init_13 (by decide) ?_
  refine gc_newa hC (atype := .int) 0 20 91 cs_181 (by decide) rfl wa_int (fun _ => rfl) (fun _ h1 h2 => Option.some.inj (h2.symm.trans h1)) cl_180 rfl rfl (by decide) (by decide) (Nat.le_of_ble_eq_true rfl) (Nat.le_of_ble_eq_true rfl) (Nat.le_of_ble_eq_true rfl) dX2_init_15 ?_
  refine gc_putr hC hin cs_182 okX2 tnX2 cg_181_89 1 (by decide) (by decide) rfl rfl (tnX2.1 1 (by decide)) rfl rfl wf_X2_15 rfl dX2_init_17 ?_
  refine gc_aload_n hC 0 dX2_init_20 rfl rfl ?_
  refine gc_bipush hC dX2_init_21 (by decide) ?_
  refine gc_newa hC (atype := .int) 0 20 92 cs_183 (by decide) rfl wa_int (fun _ => rfl) (fun _ h1 h2 => Option.some.inj (h2.symm.trans h1)) cl_182 rfl rfl (by decide) (by decide) (Nat.le_of_ble_eq_true rfl) (Nat.le_of_ble_eq_true rfl) (Nat.le_of_ble_eq_true rfl) dX2_init_23 ?_
  refine gc_putr hC hin cs_184 okX2 tnX2 cg_183_89 2 (by decide) (by decide) rfl rfl (tnX2.1 2 (by decide)) rfl rfl wf_X2_18 rfl dX2_init_25 ?_
  refine gc_aload_n hC 0 dX2_init_28 rfl rfl ?_
  refine gc_bipush hC dX2_init_29 (by decide) ?_
  refine gc_newa hC (atype := .int) 0 20 93 cs_185 (by decide) rfl wa_int (fun _ => rfl) (fun _ h1 h2 => Option.some.inj (h2.symm.trans h1)) cl_184 rfl rfl (by decide) (by decide) (Nat.le_of_ble_eq_true rfl) (Nat.le_of_ble_eq_true rfl) (Nat.le_of_ble_eq_true rfl) dX2_init_31 ?_
  refine gc_putr hC hin cs_186 okX2 tnX2 cg_185_89 3 (by decide) (by decide) rfl rfl (tnX2.1 3 (by decide)) rfl rfl wf_X2_21 rfl dX2_init_33 ?_
  exact gc_ret hC hN dX2_init_36
set_option maxHeartbeats 4000000 in
set_option maxRecDepth 100000 in
theorem cc_17 (l : Launch) (B : Nat) (D : va_G) (K : Nat → ClassId) : CtC l yX1_init cX1_init 1 2 40 15 324 B D K [.ref (B + 78)] cs_157 cm_1 cs_187 cm_1 := by
  refine ct_c (by decide) rfl (Nat.le_of_ble_eq_true rfl) ?_
  intro p e s m args below meth c hC hin hN
  have hC : Cx p s m args meth c D K cX1_init 1 RX1 none := hC
  refine (show GC p l e (rmC 2 40 15 324) s m args below meth c B D K 1 0 0 (MQ below (QC B D K cs_187 cm_1) args s 15 324 (GE B)) cs_157 cm_1 0 [(0, .ref (B + 78))] [] from ?_)
  refine gc_aload_n hC 0 dX1_init_0 rfl rfl ?_
  refine gc_obj hC ⟨wm_X1_3, wob, woc⟩ (Nat.le_of_ble_eq_true rfl) (Nat.le_of_ble_eq_true rfl) dX1_init_1 ?_
  refine gc_aload_n hC 0 dX1_init_4 rfl rfl ?_
  refine gc_bipush hC dX1_init_5 (by decide) ?_
  refine gc_newa hC (atype := .int) 0 20 79 cs_158 (by decide) rfl wa_int (fun _ => rfl) (fun _ h1 h2 => Option.some.inj (h2.symm.trans h1)) cl_157 rfl rfl (by decide) (by decide) (Nat.le_of_ble_eq_true rfl) (Nat.le_of_ble_eq_true rfl) (Nat.le_of_ble_eq_true rfl) dX1_init_7 ?_
  refine gc_putr hC hin cs_159 okX1 tnX1 cg_158_78 0 (by decide) (by decide) rfl rfl (tnX1.1 0 (by decide)) rfl rfl wf_X1_9 rfl dX1_init_9 ?_
  refine gc_aload_n hC 0 dX1_init_12 rfl rfl ?_
  refine gc_bipush hC dX1_init_13 (by decide) ?_
  refine gc_newa hC (atype := .int) 0 30 80 cs_160 (by decide) rfl wa_int (fun _ => rfl) (fun _ h1 h2 => Option.some.inj (h2.symm.trans h1)) cl_159 rfl rfl (by decide) (by decide) (Nat.le_of_ble_eq_true rfl) (Nat.le_of_ble_eq_true rfl) (Nat.le_of_ble_eq_true rfl) dX1_init_15 ?_
  refine gc_putr hC hin cs_161 okX1 tnX1 cg_160_78 1 (by decide) (by decide) rfl rfl (tnX1.1 1 (by decide)) rfl rfl wf_X1_15 rfl dX1_init_17 ?_
  refine gc_aload_n hC 0 dX1_init_20 rfl rfl ?_
  refine gc_bipush hC dX1_init_21 (by decide) ?_
  refine gc_newa hC (atype := .int) 0 20 81 cs_162 (by decide) rfl wa_int (fun _ => rfl) (fun _ h1 h2 => Option.some.inj (h2.symm.trans h1)) cl_161 rfl rfl (by decide) (by decide) (Nat.le_of_ble_eq_true rfl) (Nat.le_of_ble_eq_true rfl) (Nat.le_of_ble_eq_true rfl) dX1_init_23 ?_
  refine gc_putr hC hin cs_163 okX1 tnX1 cg_162_78 2 (by decide) (by decide) rfl rfl (tnX1.1 2 (by decide)) rfl rfl wf_X1_18 rfl dX1_init_25 ?_
  refine gc_aload_n hC 0 dX1_init_28 rfl rfl ?_
  refine gc_bipush hC dX1_init_29 (by decide) ?_
  refine gc_newa hC (atype := .int) 0 20 82 cs_164 (by decide) rfl wa_int (fun _ => rfl) (fun _ h1 h2 => Option.some.inj (h2.symm.trans h1)) cl_163 rfl rfl (by decide) (by decide) (Nat.le_of_ble_eq_true rfl) (Nat.le_of_ble_eq_true rfl) (Nat.le_of_ble_eq_true rfl) dX1_init_31 ?_
  refine gc_putr hC hin cs_165 okX1 tnX1 cg_164_78 3 (by decide) (by decide) rfl rfl (tnX1.1 3 (by decide)) rfl rfl wf_X1_21 rfl dX1_init_33 ?_
  refine gc_aload_n hC 0 dX1_init_36 rfl rfl ?_
  refine gc_bipush hC dX1_init_37 (by decide) ?_
  refine gc_newa hC (atype := .int) 0 20 83 cs_166 (by decide) rfl wa_int (fun _ => rfl) (fun _ h1 h2 => Option.some.inj (h2.symm.trans h1)) cl_165 rfl rfl (by decide) (by decide) (Nat.le_of_ble_eq_true rfl) (Nat.le_of_ble_eq_true rfl) (Nat.le_of_ble_eq_true rfl) dX1_init_39 ?_
  refine gc_putr hC hin cs_167 okX1 tnX1 cg_166_78 4 (by decide) (by decide) rfl rfl (tnX1.1 4 (by decide)) rfl rfl wf_X1_24 rfl dX1_init_41 ?_
  refine gc_aload_n hC 0 dX1_init_44 rfl rfl ?_
  refine gc_bipush hC dX1_init_45 (by decide) ?_
  refine gc_newa hC (atype := .int) 0 20 84 cs_168 (by decide) rfl wa_int (fun _ => rfl) (fun _ h1 h2 => Option.some.inj (h2.symm.trans h1)) cl_167 rfl rfl (by decide) (by decide) (Nat.le_of_ble_eq_true rfl) (Nat.le_of_ble_eq_true rfl) (Nat.le_of_ble_eq_true rfl) dX1_init_47 ?_
  refine gc_putr hC hin cs_169 okX1 tnX1 cg_168_78 5 (by decide) (by decide) rfl rfl (tnX1.1 5 (by decide)) rfl rfl wf_X1_27 rfl dX1_init_49 ?_
  refine gc_aload_n hC 0 dX1_init_52 rfl rfl ?_
  refine gc_bipush hC dX1_init_53 (by decide) ?_
  refine gc_newa hC (atype := .int) 0 20 85 cs_170 (by decide) rfl wa_int (fun _ => rfl) (fun _ h1 h2 => Option.some.inj (h2.symm.trans h1)) cl_169 rfl rfl (by decide) (by decide) (Nat.le_of_ble_eq_true rfl) (Nat.le_of_ble_eq_true rfl) (Nat.le_of_ble_eq_true rfl) dX1_init_55 ?_
  refine gc_putr hC hin cs_171 okX1 tnX1 cg_170_78 6 (by decide) (by decide) rfl rfl (tnX1.1 6 (by decide)) rfl rfl wf_X1_30 rfl dX1_init_57 ?_
  refine gc_aload_n hC 0 dX1_init_60 rfl rfl ?_
  refine gc_bipush hC dX1_init_61 (by decide) ?_
  refine gc_newa hC (atype := .int) 0 20 86 cs_172 (by decide) rfl wa_int (fun _ => rfl) (fun _ h1 h2 => Option.some.inj (h2.symm.trans h1)) cl_171 rfl rfl (by decide) (by decide) (Nat.le_of_ble_eq_true rfl) (Nat.le_of_ble_eq_true rfl) (Nat.le_of_ble_eq_true rfl) dX1_init_63 ?_
  refine gc_putr hC hin cs_173 okX1 tnX1 cg_172_78 7 (by decide) (by decide) rfl rfl (tnX1.1 7 (by decide)) rfl rfl wf_X1_33 rfl dX1_init_65 ?_
  refine gc_aload_n hC 0 dX1_init_68 rfl rfl ?_
  refine gc_bipush hC dX1_init_69 (by decide) ?_
  refine gc_newa hC (atype := .int) 0 30 87 cs_174 (by decide) rfl wa_int (fun _ => rfl) (fun _ h1 h2 => Option.some.inj (h2.symm.trans h1)) cl_173 rfl rfl (by decide) (by decide) (Nat.le_of_ble_eq_true rfl) (Nat.le_of_ble_eq_true rfl) (Nat.le_of_ble_eq_true rfl) dX1_init_71 ?_
  refine gc_putr hC hin cs_175 okX1 tnX1 cg_174_78 8 (by decide) (by decide) rfl rfl (tnX1.1 8 (by decide)) rfl rfl wf_X1_36 rfl dX1_init_73 ?_
  refine gc_aload_n hC 0 dX1_init_76 rfl rfl ?_
  refine gc_bipush hC dX1_init_77 (by decide) ?_
  refine gc_newa hC (atype := .int) 0 30 88 cs_176 (by decide) rfl wa_int (fun _ => rfl) (fun _ h1 h2 => Option.some.inj (h2.symm.trans h1)) cl_175 rfl rfl (by decide) (by decide) (Nat.le_of_ble_eq_true rfl) (Nat.le_of_ble_eq_true rfl) (Nat.le_of_ble_eq_true rfl) dX1_init_79 ?_
  refine gc_putr hC hin cs_177 okX1 tnX1 cg_176_78 9 (by decide) (by decide) rfl rfl (tnX1.1 9 (by decide)) rfl rfl wf_X1_39 rfl dX1_init_81 ?_
  refine gc_aload_n hC 0 dX1_init_84 rfl rfl ?_
  refine gc_new hC 89 cs_178 okX2 tnX2 ⟨wcl_X1_42, win_X2, wii_X2⟩ cl_177 rfl rfl rfl bl_X2 (Nat.le_of_ble_eq_true rfl) (Nat.le_of_ble_eq_true rfl) dX1_init_85 ?_
  refine gc_dup hC dX1_init_88 rfl ?_
  refine gc_callN (host := "RiverRanks") hC hN (sk := [.ref (B + 89), .ref (B + 78)]) [] (cc_18 l B D K) yc_X2_init (by decide +kernel) rfl ⟨(Nat.le_of_ble_eq_true rfl), (Nat.le_of_ble_eq_true rfl), (Nat.le_of_ble_eq_true rfl), (Nat.le_of_ble_eq_true rfl)⟩ rfl (Nat.le_of_ble_eq_true rfl) dX1_init_89 ?_
  refine gc_putr hC hin cs_187 okX1 tnX1 cg_186_78 10 (by decide) (by decide) rfl rfl (tnX1.1 10 (by decide)) rfl rfl wf_X1_45 rfl dX1_init_92 ?_
  exact gc_ret hC hN dX1_init_95
set_option maxHeartbeats 4000000 in
set_option maxRecDepth 100000 in
theorem cc_1 (l : Launch) (B : Nat) (D : va_G) (K : Nat → ClassId) : CtC l yX11_init cX11_init 1 3 61 94 4349 B D K [.ref (B + 0)] cs_1 cm_0 cs_190 cm_2 := by
  refine ct_c (by decide) rfl (Nat.le_of_ble_eq_true rfl) ?_
  intro p e s m args below meth c hC hin hN
  have hC : Cx p s m args meth c D K cX11_init 1 RX11 none := hC
  refine (show GC p l e (rmC 3 61 94 4349) s m args below meth c B D K 1 0 0 (MQ below (QC B D K cs_190 cm_2) args s 94 4349 (GE B)) cs_1 cm_0 0 [(0, .ref (B + 0))] [] from ?_)
  refine gc_aload_n hC 0 dX11_init_0 rfl rfl ?_
  refine gc_obj hC ⟨wm_X11_1, wob, woc⟩ (Nat.le_of_ble_eq_true rfl) (Nat.le_of_ble_eq_true rfl) dX11_init_1 ?_
  refine gc_aload_n hC 0 dX11_init_4 rfl rfl ?_
  refine gc_new hC 1 cs_2 okX10 tnX10 ⟨wcl_X11_7, win_X10, wii_X10⟩ cl_1 rfl rfl rfl bl_X10 (Nat.le_of_ble_eq_true rfl) (Nat.le_of_ble_eq_true rfl) dX11_init_5 ?_
  refine gc_dup hC dX11_init_8 rfl ?_
  refine gc_callN (host := "RiverRanks") hC hN (sk := [.ref (B + 1), .ref (B + 0)]) [] (cc_2 l B D K) yc_X10_init (by decide +kernel) rfl ⟨(Nat.le_of_ble_eq_true rfl), (Nat.le_of_ble_eq_true rfl), (Nat.le_of_ble_eq_true rfl), (Nat.le_of_ble_eq_true rfl)⟩ rfl (Nat.le_of_ble_eq_true rfl) dX11_init_9 ?_
  refine gc_putr hC hin cs_5 okX11 tnX11 cg_4_0 0 (by decide) (by decide) rfl rfl (tnX11.1 0 (by decide)) rfl rfl wf_X11_10 rfl dX11_init_12 ?_
  refine gc_aload_n hC 0 dX11_init_15 rfl rfl ?_
  refine gc_new hC 3 cs_6 okX6 tnX6 ⟨wcl_X11_16, win_X6, wii_X6⟩ cl_5 rfl rfl rfl bl_X6 (Nat.le_of_ble_eq_true rfl) (Nat.le_of_ble_eq_true rfl) dX11_init_16 ?_
  refine gc_dup hC dX11_init_19 rfl ?_
  refine gc_aload_n hC 0 dX11_init_20 rfl rfl ?_
  refine gc_getr hC okX11 cg_6_0 0 (by decide) rfl wf_X11_10 dX11_init_21 ?_
  refine gc_callI hC hN (sk := [.ref (B + 3), .ref (B + 0)]) [.ref (B + 1)] (cc_3 l B D K) yc_X6_init wm_X11_18 rfl ⟨(Nat.le_of_ble_eq_true rfl), (Nat.le_of_ble_eq_true rfl), (Nat.le_of_ble_eq_true rfl), (Nat.le_of_ble_eq_true rfl)⟩ rfl (Nat.le_of_ble_eq_true rfl) dX11_init_24 ?_
  refine gc_putr hC hin cs_24 okX11 tnX11 cg_23_0 1 (by decide) (by decide) rfl rfl (tnX11.1 1 (by decide)) rfl rfl wf_X11_21 rfl dX11_init_27 ?_
  refine gc_aload_n hC 0 dX11_init_30 rfl rfl ?_
  refine gc_new hC 12 cs_25 okX5 tnX5 ⟨wcl_X11_25, win_X5, wii_X5⟩ cl_24 rfl rfl rfl bl_X5 (Nat.le_of_ble_eq_true rfl) (Nat.le_of_ble_eq_true rfl) dX11_init_31 ?_
  refine gc_dup hC dX11_init_34 rfl ?_
  refine gc_callN (host := "RiverRanks") hC hN (sk := [.ref (B + 12), .ref (B + 0)]) [] (cc_5 l B D K) yc_X5_init (by decide +kernel) rfl ⟨(Nat.le_of_ble_eq_true rfl), (Nat.le_of_ble_eq_true rfl), (Nat.le_of_ble_eq_true rfl), (Nat.le_of_ble_eq_true rfl)⟩ rfl (Nat.le_of_ble_eq_true rfl) dX11_init_35 ?_
  refine gc_putr hC hin cs_36 okX11 tnX11 cg_35_0 2 (by decide) (by decide) rfl rfl (tnX11.1 2 (by decide)) rfl rfl wf_X11_28 rfl dX11_init_38 ?_
  refine gc_aload_n hC 0 dX11_init_41 rfl rfl ?_
  refine gc_bipush hC dX11_init_42 (by decide) ?_
  refine gc_newa hC (atype := .int) 0 20 18 cs_37 (by decide) rfl wa_int (fun _ => rfl) (fun _ h1 h2 => Option.some.inj (h2.symm.trans h1)) cl_36 rfl rfl (by decide) (by decide) (Nat.le_of_ble_eq_true rfl) (Nat.le_of_ble_eq_true rfl) (Nat.le_of_ble_eq_true rfl) dX11_init_44 ?_
  refine gc_putr hC hin cs_38 okX11 tnX11 cg_37_0 3 (by decide) (by decide) rfl rfl (tnX11.1 3 (by decide)) rfl rfl wf_X11_32 rfl dX11_init_46 ?_
  refine gc_aload_n hC 0 dX11_init_49 rfl rfl ?_
  refine gc_bipush hC dX11_init_50 (by decide) ?_
  refine gc_newa hC (atype := .int) 0 10 19 cs_39 (by decide) rfl wa_int (fun _ => rfl) (fun _ h1 h2 => Option.some.inj (h2.symm.trans h1)) cl_38 rfl rfl (by decide) (by decide) (Nat.le_of_ble_eq_true rfl) (Nat.le_of_ble_eq_true rfl) (Nat.le_of_ble_eq_true rfl) dX11_init_52 ?_
  refine gc_putr hC hin cs_40 okX11 tnX11 cg_39_0 4 (by decide) (by decide) rfl rfl (tnX11.1 4 (by decide)) rfl rfl wf_X11_36 rfl dX11_init_54 ?_
  refine gc_aload_n hC 0 dX11_init_57 rfl rfl ?_
  refine gc_new hC 20 cs_41 okX1 tnX1 ⟨wcl_X11_39, win_X1, wii_X1⟩ cl_40 rfl rfl rfl bl_X1 (Nat.le_of_ble_eq_true rfl) (Nat.le_of_ble_eq_true rfl) dX11_init_58 ?_
  refine gc_dup hC dX11_init_61 rfl ?_
  refine gc_callN (host := "RiverRanks") hC hN (sk := [.ref (B + 20), .ref (B + 0)]) [] (cc_6 l B D K) yc_X1_init (by decide +kernel) rfl ⟨(Nat.le_of_ble_eq_true rfl), (Nat.le_of_ble_eq_true rfl), (Nat.le_of_ble_eq_true rfl), (Nat.le_of_ble_eq_true rfl)⟩ rfl (Nat.le_of_ble_eq_true rfl) dX11_init_62 ?_
  refine gc_putr hC hin cs_72 okX11 tnX11 cg_71_0 6 (by decide) (by decide) rfl rfl (tnX11.1 6 (by decide)) rfl rfl wf_X11_42 rfl dX11_init_65 ?_
  refine gc_aload_n hC 0 dX11_init_68 rfl rfl ?_
  refine gc_iconst hC dX11_init_69 ?_
  refine gc_anew hC 36 cs_73 wcl_X11_46 hN.2 cl_72 rfl (by decide) (by decide) (Nat.le_of_ble_eq_true rfl) (Nat.le_of_ble_eq_true rfl) dX11_init_70 ?_
  refine gc_dup hC dX11_init_73 rfl ?_
  refine gc_iconst hC dX11_init_74 ?_
  refine gc_new hC 37 cs_74 okX9 tnX9 ⟨wcl_X11_46, win_X9, wii_X9⟩ cl_73 rfl rfl rfl bl_X9 (Nat.le_of_ble_eq_true rfl) (Nat.le_of_ble_eq_true rfl) dX11_init_75 ?_
  refine gc_dup hC dX11_init_78 rfl ?_
  refine gc_callN (host := "RiverRanks") hC hN (sk := [.ref (B + 37), J 0, .ref (B + 36), .ref (B + 36), .ref (B + 0)]) [] (cc_8 l B D K) yc_X9_init (by decide +kernel) rfl ⟨(Nat.le_of_ble_eq_true rfl), (Nat.le_of_ble_eq_true rfl), (Nat.le_of_ble_eq_true rfl), (Nat.le_of_ble_eq_true rfl)⟩ rfl (Nat.le_of_ble_eq_true rfl) dX11_init_79 ?_
  refine gc_aast hC 36 37 0 cs_87 cg_86_36 cg_86_37 (by decide) rfl rfl rfl dX11_init_82 ?_
  refine gc_dup hC dX11_init_83 rfl ?_
  refine gc_iconst hC dX11_init_84 ?_
  refine gc_new hC 44 cs_88 okX9 tnX9 ⟨wcl_X11_46, win_X9, wii_X9⟩ cl_87 rfl rfl rfl bl_X9 (Nat.le_of_ble_eq_true rfl) (Nat.le_of_ble_eq_true rfl) dX11_init_85 ?_
  refine gc_dup hC dX11_init_88 rfl ?_
  refine gc_callN (host := "RiverRanks") hC hN (sk := [.ref (B + 44), J 1, .ref (B + 36), .ref (B + 36), .ref (B + 0)]) [] (cc_9 l B D K) yc_X9_init (by decide +kernel) rfl ⟨(Nat.le_of_ble_eq_true rfl), (Nat.le_of_ble_eq_true rfl), (Nat.le_of_ble_eq_true rfl), (Nat.le_of_ble_eq_true rfl)⟩ rfl (Nat.le_of_ble_eq_true rfl) dX11_init_89 ?_
  refine gc_aast hC 36 44 1 cs_101 cg_100_36 cg_100_44 (by decide) rfl rfl rfl dX11_init_92 ?_
  refine gc_dup hC dX11_init_93 rfl ?_
  refine gc_iconst hC dX11_init_94 ?_
  refine gc_new hC 51 cs_102 okX9 tnX9 ⟨wcl_X11_46, win_X9, wii_X9⟩ cl_101 rfl rfl rfl bl_X9 (Nat.le_of_ble_eq_true rfl) (Nat.le_of_ble_eq_true rfl) dX11_init_95 ?_
  refine gc_dup hC dX11_init_98 rfl ?_
  refine gc_callN (host := "RiverRanks") hC hN (sk := [.ref (B + 51), J 2, .ref (B + 36), .ref (B + 36), .ref (B + 0)]) [] (cc_10 l B D K) yc_X9_init (by decide +kernel) rfl ⟨(Nat.le_of_ble_eq_true rfl), (Nat.le_of_ble_eq_true rfl), (Nat.le_of_ble_eq_true rfl), (Nat.le_of_ble_eq_true rfl)⟩ rfl (Nat.le_of_ble_eq_true rfl) dX11_init_99 ?_
  refine gc_aast hC 36 51 2 cs_115 cg_114_36 cg_114_51 (by decide) rfl rfl rfl dX11_init_102 ?_
  refine gc_putr hC hin cs_116 okX11 tnX11 cg_115_0 7 (by decide) (by decide) rfl rfl (tnX11.1 7 (by decide)) rfl rfl wf_X11_49 rfl dX11_init_103 ?_
  refine gc_aload_n hC 0 dX11_init_106 rfl rfl ?_
  refine gc_new hC 58 cs_117 okX3 tnX3 ⟨wcl_X11_53, win_X3, wii_X3⟩ cl_116 rfl rfl rfl bl_X3 (Nat.le_of_ble_eq_true rfl) (Nat.le_of_ble_eq_true rfl) dX11_init_107 ?_
  refine gc_dup hC dX11_init_110 rfl ?_
  refine gc_callN (host := "RiverRanks") hC hN (sk := [.ref (B + 58), .ref (B + 0)]) [] (cc_11 l B D K) yc_X3_init (by decide +kernel) rfl ⟨(Nat.le_of_ble_eq_true rfl), (Nat.le_of_ble_eq_true rfl), (Nat.le_of_ble_eq_true rfl), (Nat.le_of_ble_eq_true rfl)⟩ rfl (Nat.le_of_ble_eq_true rfl) dX11_init_111 ?_
  refine gc_putr hC hin cs_120 okX11 tnX11 cg_119_0 8 (by decide) (by decide) rfl rfl (tnX11.1 8 (by decide)) rfl rfl wf_X11_56 rfl dX11_init_114 ?_
  refine gc_aload_n hC 0 dX11_init_117 rfl rfl ?_
  refine gc_new hC 60 cs_121 okX0 tnX0 ⟨wcl_X11_60, win_X0, wii_X0⟩ cl_120 rfl rfl rfl bl_X0 (Nat.le_of_ble_eq_true rfl) (Nat.le_of_ble_eq_true rfl) dX11_init_118 ?_
  refine gc_dup hC dX11_init_121 rfl ?_
  refine gc_callN (host := "RiverRanks") hC hN (sk := [.ref (B + 60), .ref (B + 0)]) [] (cc_12 l B D K) yc_X0_init (by decide +kernel) rfl ⟨(Nat.le_of_ble_eq_true rfl), (Nat.le_of_ble_eq_true rfl), (Nat.le_of_ble_eq_true rfl), (Nat.le_of_ble_eq_true rfl)⟩ rfl (Nat.le_of_ble_eq_true rfl) dX11_init_122 ?_
  refine gc_putr hC hin cs_126 okX11 tnX11 cg_125_0 9 (by decide) (by decide) rfl rfl (tnX11.1 9 (by decide)) rfl rfl wf_X11_63 rfl dX11_init_125 ?_
  refine gc_aload_n hC 0 dX11_init_128 rfl rfl ?_
  refine gc_new hC 63 cs_127 okX8 tnX8 ⟨wcl_X11_67, win_X8, wii_X8⟩ cl_126 rfl rfl rfl bl_X8 (Nat.le_of_ble_eq_true rfl) (Nat.le_of_ble_eq_true rfl) dX11_init_129 ?_
  refine gc_dup hC dX11_init_132 rfl ?_
  refine gc_callN (host := "RiverRanks") hC hN (sk := [.ref (B + 63), .ref (B + 0)]) [] (cc_13 l B D K) yc_X8_init (by decide +kernel) rfl ⟨(Nat.le_of_ble_eq_true rfl), (Nat.le_of_ble_eq_true rfl), (Nat.le_of_ble_eq_true rfl), (Nat.le_of_ble_eq_true rfl)⟩ rfl (Nat.le_of_ble_eq_true rfl) dX11_init_133 ?_
  refine gc_putr hC hin cs_132 okX11 tnX11 cg_131_0 10 (by decide) (by decide) rfl rfl (tnX11.1 10 (by decide)) rfl rfl wf_X11_70 rfl dX11_init_136 ?_
  refine gc_aload_n hC 0 dX11_init_139 rfl rfl ?_
  refine gc_new hC 66 cs_133 okX4 tnX4 ⟨wcl_X11_74, win_X4, wii_X4⟩ cl_132 rfl rfl rfl bl_X4 (Nat.le_of_ble_eq_true rfl) (Nat.le_of_ble_eq_true rfl) dX11_init_140 ?_
  refine gc_dup hC dX11_init_143 rfl ?_
  refine gc_callN (host := "RiverRanks") hC hN (sk := [.ref (B + 66), .ref (B + 0)]) [] (cc_14 l B D K) yc_X4_init (by decide +kernel) rfl ⟨(Nat.le_of_ble_eq_true rfl), (Nat.le_of_ble_eq_true rfl), (Nat.le_of_ble_eq_true rfl), (Nat.le_of_ble_eq_true rfl)⟩ rfl (Nat.le_of_ble_eq_true rfl) dX11_init_144 ?_
  refine gc_putr hC hin cs_136 okX11 tnX11 cg_135_0 11 (by decide) (by decide) rfl rfl (tnX11.1 11 (by decide)) rfl rfl wf_X11_77 rfl dX11_init_147 ?_
  refine gc_aload_n hC 0 dX11_init_150 rfl rfl ?_
  refine gc_new hC 68 cs_137 okX7 tnX7 ⟨wcl_X11_81, win_X7, wii_X7⟩ cl_136 rfl rfl rfl bl_X7 (Nat.le_of_ble_eq_true rfl) (Nat.le_of_ble_eq_true rfl) dX11_init_151 ?_
  refine gc_dup hC dX11_init_154 rfl ?_
  refine gc_callN (host := "RiverRanks") hC hN (sk := [.ref (B + 68), .ref (B + 0)]) [] (cc_15 l B D K) yc_X7_init (by decide +kernel) rfl ⟨(Nat.le_of_ble_eq_true rfl), (Nat.le_of_ble_eq_true rfl), (Nat.le_of_ble_eq_true rfl), (Nat.le_of_ble_eq_true rfl)⟩ rfl (Nat.le_of_ble_eq_true rfl) dX11_init_155 ?_
  refine gc_putr hC hin cs_144 okX11 tnX11 cg_143_0 12 (by decide) (by decide) rfl rfl (tnX11.1 12 (by decide)) rfl rfl wf_X11_84 rfl dX11_init_158 ?_
  refine gc_aload_n hC 0 dX11_init_161 rfl rfl ?_
  refine gc_new hC 72 cs_145 okX5 tnX5 ⟨wcl_X11_25, win_X5, wii_X5⟩ cl_144 rfl rfl rfl bl_X5 (Nat.le_of_ble_eq_true rfl) (Nat.le_of_ble_eq_true rfl) dX11_init_162 ?_
  refine gc_dup hC dX11_init_165 rfl ?_
  refine gc_callN (host := "RiverRanks") hC hN (sk := [.ref (B + 72), .ref (B + 0)]) [] (cc_16 l B D K) yc_X5_init (by decide +kernel) rfl ⟨(Nat.le_of_ble_eq_true rfl), (Nat.le_of_ble_eq_true rfl), (Nat.le_of_ble_eq_true rfl), (Nat.le_of_ble_eq_true rfl)⟩ rfl (Nat.le_of_ble_eq_true rfl) dX11_init_166 ?_
  refine gc_putr hC hin cs_156 okX11 tnX11 cg_155_0 13 (by decide) (by decide) rfl rfl (tnX11.1 13 (by decide)) rfl rfl wf_X11_88 rfl dX11_init_169 ?_
  refine gc_aload_n hC 0 dX11_init_172 rfl rfl ?_
  refine gc_new hC 78 cs_157 okX1 tnX1 ⟨wcl_X11_39, win_X1, wii_X1⟩ cl_156 rfl rfl rfl bl_X1 (Nat.le_of_ble_eq_true rfl) (Nat.le_of_ble_eq_true rfl) dX11_init_173 ?_
  refine gc_dup hC dX11_init_176 rfl ?_
  refine gc_callN (host := "RiverRanks") hC hN (sk := [.ref (B + 78), .ref (B + 0)]) [] (cc_17 l B D K) yc_X1_init (by decide +kernel) rfl ⟨(Nat.le_of_ble_eq_true rfl), (Nat.le_of_ble_eq_true rfl), (Nat.le_of_ble_eq_true rfl), (Nat.le_of_ble_eq_true rfl)⟩ rfl (Nat.le_of_ble_eq_true rfl) dX11_init_177 ?_
  refine gc_putr hC hin cs_188 okX11 tnX11 cg_187_0 14 (by decide) (by decide) rfl rfl (tnX11.1 14 (by decide)) rfl rfl wf_X11_91 rfl dX11_init_180 ?_
  refine gc_aload_n hC 0 dX11_init_183 rfl rfl ?_
  refine gc_bipush hC dX11_init_184 (by decide) ?_
  refine gc_newa hC (atype := .int) 0 6 94 cs_189 (by decide) rfl wa_int (fun _ => rfl) (fun _ h1 h2 => Option.some.inj (h2.symm.trans h1)) cl_188 rfl rfl (by decide) (by decide) (Nat.le_of_ble_eq_true rfl) (Nat.le_of_ble_eq_true rfl) (Nat.le_of_ble_eq_true rfl) dX11_init_186 ?_
  refine gc_putr hC hin cs_190 okX11 tnX11 cg_189_0 15 (by decide) (by decide) rfl rfl (tnX11.1 15 (by decide)) rfl rfl wf_X11_94 rfl dX11_init_188 ?_
  refine gc_aload_n hC 0 dX11_init_191 rfl rfl ?_
  refine gc_iconst hC dX11_init_192 ?_
  refine gc_putn (v := 1) hC okX11 tnX11 cg_190_0 16 (by decide) rfl rfl (tnX11.1 16 (by decide)) (fun g hg => by rw [← hg]; rfl) rfl rfl wf_X11_97 dX11_init_193 ?_
  exact gc_ret hC hN dX11_init_196
set_option maxHeartbeats 4000000 in
set_option maxRecDepth 100000 in
theorem cc_19 (l : Launch) (B : Nat) (D : va_G) (K : Nat → ClassId) : CtC l yX12_init cX12_init 1 1 20 31 6907 B D K [.ref (B + 95)] cs_191 cm_2 cs_253 cm_39 := by
  refine ct_c (by decide) rfl (Nat.le_of_ble_eq_true rfl) ?_
  intro p e s m args below meth c hC hin hN
  have hC : Cx p s m args meth c D K cX12_init 1 RX12 none := hC
  refine (show GC p l e (rmC 1 20 31 6907) s m args below meth c B D K 1 0 0 (MQ below (QC B D K cs_253 cm_39) args s 31 6907 (GE B)) cs_191 cm_2 0 [(0, .ref (B + 95))] [] from ?_)
  refine gc_aload_n hC 0 dX12_init_0 rfl rfl ?_
  refine gc_obj hC ⟨wm_X12_1, wob, woc⟩ (Nat.le_of_ble_eq_true rfl) (Nat.le_of_ble_eq_true rfl) dX12_init_1 ?_
  refine gc_aload_n hC 0 dX12_init_4 rfl rfl ?_
  refine gc_sipush hC dX12_init_5 (by decide) ?_
  refine gc_newa hC (atype := .int) 0 1600 96 cs_192 (by decide) rfl wa_int (fun _ => rfl) (fun _ h1 h2 => Option.some.inj (h2.symm.trans h1)) cl_191 rfl rfl (by decide) (by decide) (Nat.le_of_ble_eq_true rfl) (Nat.le_of_ble_eq_true rfl) (Nat.le_of_ble_eq_true rfl) dX12_init_8 ?_
  refine gc_putr hC hin cs_193 okX12 tnX12 cg_192_95 0 (by decide) (by decide) rfl rfl (tnX12.1 0 (by decide)) rfl rfl wf_X12_7 rfl dX12_init_10 ?_
  refine gc_aload_n hC 0 dX12_init_13 rfl rfl ?_
  refine gc_iconst hC dX12_init_14 ?_
  refine gc_putn (v := -1) hC okX12 tnX12 cg_193_95 8 (by decide) rfl rfl (tnX12.1 8 (by decide)) (fun g hg => by rw [← hg]; rfl) rfl rfl wf_X12_13 dX12_init_15 ?_
  refine gc_aload_n hC 0 dX12_init_18 rfl rfl ?_
  refine gc_bipush hC dX12_init_19 (by decide) ?_
  refine gc_newa hC (atype := .int) 0 6 97 cs_194 (by decide) rfl wa_int (fun _ => rfl) (fun _ h1 h2 => Option.some.inj (h2.symm.trans h1)) cl_193 rfl rfl (by decide) (by decide) (Nat.le_of_ble_eq_true rfl) (Nat.le_of_ble_eq_true rfl) (Nat.le_of_ble_eq_true rfl) dX12_init_21 ?_
  refine gc_putr hC hin cs_195 okX12 tnX12 cg_194_95 9 (by decide) (by decide) rfl rfl (tnX12.1 9 (by decide)) rfl rfl wf_X12_17 rfl dX12_init_23 ?_
  refine gc_aload_n hC 0 dX12_init_26 rfl rfl ?_
  refine gc_bipush hC dX12_init_27 (by decide) ?_
  refine gc_newa hC (atype := .char) 2 35 98 cs_196 (by decide) rfl wa_char (fun _ => rfl) (fun _ h1 h2 => Option.some.inj (h2.symm.trans h1)) cl_195 rfl rfl (by decide) (by decide) (Nat.le_of_ble_eq_true rfl) (Nat.le_of_ble_eq_true rfl) (Nat.le_of_ble_eq_true rfl) dX12_init_29 ?_
  refine gc_dup hC dX12_init_31 rfl ?_
  refine gc_iconst hC dX12_init_32 ?_
  refine gc_bipush hC dX12_init_33 (by decide) ?_
  refine gc_cast hC 98 0 cg_196_98 (by decide) (by decide) rfl (by decide) dX12_init_35 ?_
  refine gc_dup hC dX12_init_36 rfl ?_
  refine gc_iconst hC dX12_init_37 ?_
  refine gc_bipush hC dX12_init_38 (by decide) ?_
  refine gc_cast hC 98 1 cg_196_98 (by decide) (by decide) rfl (by decide) dX12_init_40 ?_
  refine gc_dup hC dX12_init_41 rfl ?_
  refine gc_iconst hC dX12_init_42 ?_
  refine gc_bipush hC dX12_init_43 (by decide) ?_
  refine gc_cast hC 98 2 cg_196_98 (by decide) (by decide) rfl (by decide) dX12_init_45 ?_
  refine gc_dup hC dX12_init_46 rfl ?_
  refine gc_iconst hC dX12_init_47 ?_
  refine gc_bipush hC dX12_init_48 (by decide) ?_
  refine gc_cast hC 98 3 cg_196_98 (by decide) (by decide) rfl (by decide) dX12_init_50 ?_
  refine gc_dup hC dX12_init_51 rfl ?_
  refine gc_iconst hC dX12_init_52 ?_
  refine gc_bipush hC dX12_init_53 (by decide) ?_
  refine gc_cast hC 98 4 cg_196_98 (by decide) (by decide) rfl (by decide) dX12_init_55 ?_
  refine gc_dup hC dX12_init_56 rfl ?_
  refine gc_iconst hC dX12_init_57 ?_
  refine gc_bipush hC dX12_init_58 (by decide) ?_
  refine gc_cast hC 98 5 cg_196_98 (by decide) (by decide) rfl (by decide) dX12_init_60 ?_
  refine gc_dup hC dX12_init_61 rfl ?_
  refine gc_bipush hC dX12_init_62 (by decide) ?_
  refine gc_bipush hC dX12_init_64 (by decide) ?_
  refine gc_cast hC 98 6 cg_196_98 (by decide) (by decide) rfl (by decide) dX12_init_66 ?_
  refine gc_dup hC dX12_init_67 rfl ?_
  refine gc_bipush hC dX12_init_68 (by decide) ?_
  refine gc_bipush hC dX12_init_70 (by decide) ?_
  refine gc_cast hC 98 7 cg_196_98 (by decide) (by decide) rfl (by decide) dX12_init_72 ?_
  refine gc_dup hC dX12_init_73 rfl ?_
  refine gc_bipush hC dX12_init_74 (by decide) ?_
  refine gc_bipush hC dX12_init_76 (by decide) ?_
  refine gc_cast hC 98 8 cg_196_98 (by decide) (by decide) rfl (by decide) dX12_init_78 ?_
  refine gc_dup hC dX12_init_79 rfl ?_
  refine gc_bipush hC dX12_init_80 (by decide) ?_
  refine gc_bipush hC dX12_init_82 (by decide) ?_
  refine gc_cast hC 98 9 cg_196_98 (by decide) (by decide) rfl (by decide) dX12_init_84 ?_
  refine gc_dup hC dX12_init_85 rfl ?_
  refine gc_bipush hC dX12_init_86 (by decide) ?_
  refine gc_bipush hC dX12_init_88 (by decide) ?_
  refine gc_cast hC 98 10 cg_196_98 (by decide) (by decide) rfl (by decide) dX12_init_90 ?_
  refine gc_dup hC dX12_init_91 rfl ?_
  refine gc_bipush hC dX12_init_92 (by decide) ?_
  refine gc_bipush hC dX12_init_94 (by decide) ?_
  refine gc_cast hC 98 11 cg_196_98 (by decide) (by decide) rfl (by decide) dX12_init_96 ?_
  refine gc_dup hC dX12_init_97 rfl ?_
  refine gc_bipush hC dX12_init_98 (by decide) ?_
  refine gc_bipush hC dX12_init_100 (by decide) ?_
  refine gc_cast hC 98 12 cg_196_98 (by decide) (by decide) rfl (by decide) dX12_init_102 ?_
  refine gc_dup hC dX12_init_103 rfl ?_
  refine gc_bipush hC dX12_init_104 (by decide) ?_
  refine gc_bipush hC dX12_init_106 (by decide) ?_
  refine gc_cast hC 98 13 cg_196_98 (by decide) (by decide) rfl (by decide) dX12_init_108 ?_
  refine gc_dup hC dX12_init_109 rfl ?_
  refine gc_bipush hC dX12_init_110 (by decide) ?_
  refine gc_bipush hC dX12_init_112 (by decide) ?_
  refine gc_cast hC 98 14 cg_196_98 (by decide) (by decide) rfl (by decide) dX12_init_114 ?_
  refine gc_dup hC dX12_init_115 rfl ?_
  refine gc_bipush hC dX12_init_116 (by decide) ?_
  refine gc_bipush hC dX12_init_118 (by decide) ?_
  refine gc_cast hC 98 15 cg_196_98 (by decide) (by decide) rfl (by decide) dX12_init_120 ?_
  refine gc_dup hC dX12_init_121 rfl ?_
  refine gc_bipush hC dX12_init_122 (by decide) ?_
  refine gc_bipush hC dX12_init_124 (by decide) ?_
  refine gc_cast hC 98 16 cg_196_98 (by decide) (by decide) rfl (by decide) dX12_init_126 ?_
  refine gc_dup hC dX12_init_127 rfl ?_
  refine gc_bipush hC dX12_init_128 (by decide) ?_
  refine gc_bipush hC dX12_init_130 (by decide) ?_
  refine gc_cast hC 98 17 cg_196_98 (by decide) (by decide) rfl (by decide) dX12_init_132 ?_
  refine gc_dup hC dX12_init_133 rfl ?_
  refine gc_bipush hC dX12_init_134 (by decide) ?_
  refine gc_bipush hC dX12_init_136 (by decide) ?_
  refine gc_cast hC 98 18 cg_196_98 (by decide) (by decide) rfl (by decide) dX12_init_138 ?_
  refine gc_dup hC dX12_init_139 rfl ?_
  refine gc_bipush hC dX12_init_140 (by decide) ?_
  refine gc_bipush hC dX12_init_142 (by decide) ?_
  refine gc_cast hC 98 19 cg_196_98 (by decide) (by decide) rfl (by decide) dX12_init_144 ?_
  refine gc_dup hC dX12_init_145 rfl ?_
  refine gc_bipush hC dX12_init_146 (by decide) ?_
  refine gc_bipush hC dX12_init_148 (by decide) ?_
  refine gc_cast hC 98 20 cg_196_98 (by decide) (by decide) rfl (by decide) dX12_init_150 ?_
  refine gc_dup hC dX12_init_151 rfl ?_
  refine gc_bipush hC dX12_init_152 (by decide) ?_
  refine gc_bipush hC dX12_init_154 (by decide) ?_
  refine gc_cast hC 98 21 cg_196_98 (by decide) (by decide) rfl (by decide) dX12_init_156 ?_
  refine gc_dup hC dX12_init_157 rfl ?_
  refine gc_bipush hC dX12_init_158 (by decide) ?_
  refine gc_bipush hC dX12_init_160 (by decide) ?_
  refine gc_cast hC 98 22 cg_196_98 (by decide) (by decide) rfl (by decide) dX12_init_162 ?_
  refine gc_dup hC dX12_init_163 rfl ?_
  refine gc_bipush hC dX12_init_164 (by decide) ?_
  refine gc_bipush hC dX12_init_166 (by decide) ?_
  refine gc_cast hC 98 23 cg_196_98 (by decide) (by decide) rfl (by decide) dX12_init_168 ?_
  refine gc_dup hC dX12_init_169 rfl ?_
  refine gc_bipush hC dX12_init_170 (by decide) ?_
  refine gc_bipush hC dX12_init_172 (by decide) ?_
  refine gc_cast hC 98 24 cg_196_98 (by decide) (by decide) rfl (by decide) dX12_init_174 ?_
  refine gc_dup hC dX12_init_175 rfl ?_
  refine gc_bipush hC dX12_init_176 (by decide) ?_
  refine gc_bipush hC dX12_init_178 (by decide) ?_
  refine gc_cast hC 98 25 cg_196_98 (by decide) (by decide) rfl (by decide) dX12_init_180 ?_
  refine gc_dup hC dX12_init_181 rfl ?_
  refine gc_bipush hC dX12_init_182 (by decide) ?_
  refine gc_bipush hC dX12_init_184 (by decide) ?_
  refine gc_cast hC 98 26 cg_196_98 (by decide) (by decide) rfl (by decide) dX12_init_186 ?_
  refine gc_dup hC dX12_init_187 rfl ?_
  refine gc_bipush hC dX12_init_188 (by decide) ?_
  refine gc_bipush hC dX12_init_190 (by decide) ?_
  refine gc_cast hC 98 27 cg_196_98 (by decide) (by decide) rfl (by decide) dX12_init_192 ?_
  refine gc_dup hC dX12_init_193 rfl ?_
  refine gc_bipush hC dX12_init_194 (by decide) ?_
  refine gc_bipush hC dX12_init_196 (by decide) ?_
  refine gc_cast hC 98 28 cg_196_98 (by decide) (by decide) rfl (by decide) dX12_init_198 ?_
  refine gc_dup hC dX12_init_199 rfl ?_
  refine gc_bipush hC dX12_init_200 (by decide) ?_
  refine gc_bipush hC dX12_init_202 (by decide) ?_
  refine gc_cast hC 98 29 cg_196_98 (by decide) (by decide) rfl (by decide) dX12_init_204 ?_
  refine gc_dup hC dX12_init_205 rfl ?_
  refine gc_bipush hC dX12_init_206 (by decide) ?_
  refine gc_bipush hC dX12_init_208 (by decide) ?_
  refine gc_cast hC 98 30 cg_196_98 (by decide) (by decide) rfl (by decide) dX12_init_210 ?_
  refine gc_dup hC dX12_init_211 rfl ?_
  refine gc_bipush hC dX12_init_212 (by decide) ?_
  refine gc_bipush hC dX12_init_214 (by decide) ?_
  refine gc_cast hC 98 31 cg_196_98 (by decide) (by decide) rfl (by decide) dX12_init_216 ?_
  refine gc_dup hC dX12_init_217 rfl ?_
  refine gc_bipush hC dX12_init_218 (by decide) ?_
  refine gc_bipush hC dX12_init_220 (by decide) ?_
  refine gc_cast hC 98 32 cg_196_98 (by decide) (by decide) rfl (by decide) dX12_init_222 ?_
  refine gc_dup hC dX12_init_223 rfl ?_
  refine gc_bipush hC dX12_init_224 (by decide) ?_
  refine gc_bipush hC dX12_init_226 (by decide) ?_
  refine gc_cast hC 98 33 cg_196_98 (by decide) (by decide) rfl (by decide) dX12_init_228 ?_
  refine gc_dup hC dX12_init_229 rfl ?_
  refine gc_bipush hC dX12_init_230 (by decide) ?_
  refine gc_bipush hC dX12_init_232 (by decide) ?_
  refine gc_cast hC 98 34 cg_196_98 (by decide) (by decide) rfl (by decide) dX12_init_234 ?_
  refine gc_putr hC hin cs_197 okX12 tnX12 cg_196_95 10 (by decide) (by decide) rfl rfl (tnX12.1 10 (by decide)) rfl rfl wf_X12_20 rfl dX12_init_235 ?_
  refine gc_aload_n hC 0 dX12_init_238 rfl rfl ?_
  refine gc_sipush hC dX12_init_239 (by decide) ?_
  refine gc_newa hC (atype := .int) 0 183 99 cs_198 (by decide) rfl wa_int (fun _ => rfl) (fun _ h1 h2 => Option.some.inj (h2.symm.trans h1)) cl_197 rfl rfl (by decide) (by decide) (Nat.le_of_ble_eq_true rfl) (Nat.le_of_ble_eq_true rfl) (Nat.le_of_ble_eq_true rfl) dX12_init_242 ?_
  refine gc_putr hC hin cs_199 okX12 tnX12 cg_198_95 12 (by decide) (by decide) rfl rfl (tnX12.1 12 (by decide)) rfl rfl wf_X12_24 rfl dX12_init_244 ?_
  refine gc_aload_n hC 0 dX12_init_247 rfl rfl ?_
  refine gc_sipush hC dX12_init_248 (by decide) ?_
  refine gc_newa hC (atype := .int) 0 183 100 cs_200 (by decide) rfl wa_int (fun _ => rfl) (fun _ h1 h2 => Option.some.inj (h2.symm.trans h1)) cl_199 rfl rfl (by decide) (by decide) (Nat.le_of_ble_eq_true rfl) (Nat.le_of_ble_eq_true rfl) (Nat.le_of_ble_eq_true rfl) dX12_init_251 ?_
  refine gc_putr hC hin cs_201 okX12 tnX12 cg_200_95 13 (by decide) (by decide) rfl rfl (tnX12.1 13 (by decide)) rfl rfl wf_X12_27 rfl dX12_init_253 ?_
  refine gc_aload_n hC 0 dX12_init_256 rfl rfl ?_
  refine gc_bipush hC dX12_init_257 (by decide) ?_
  refine gc_newa hC (atype := .int) 0 20 101 cs_202 (by decide) rfl wa_int (fun _ => rfl) (fun _ h1 h2 => Option.some.inj (h2.symm.trans h1)) cl_201 rfl rfl (by decide) (by decide) (Nat.le_of_ble_eq_true rfl) (Nat.le_of_ble_eq_true rfl) (Nat.le_of_ble_eq_true rfl) dX12_init_259 ?_
  refine gc_putr hC hin cs_203 okX12 tnX12 cg_202_95 16 (by decide) (by decide) rfl rfl (tnX12.1 16 (by decide)) rfl rfl wf_X12_30 rfl dX12_init_261 ?_
  refine gc_aload_n hC 0 dX12_init_264 rfl rfl ?_
  refine gc_bipush hC dX12_init_265 (by decide) ?_
  refine gc_newa hC (atype := .int) 0 20 102 cs_204 (by decide) rfl wa_int (fun _ => rfl) (fun _ h1 h2 => Option.some.inj (h2.symm.trans h1)) cl_203 rfl rfl (by decide) (by decide) (Nat.le_of_ble_eq_true rfl) (Nat.le_of_ble_eq_true rfl) (Nat.le_of_ble_eq_true rfl) dX12_init_267 ?_
  refine gc_putr hC hin cs_205 okX12 tnX12 cg_204_95 17 (by decide) (by decide) rfl rfl (tnX12.1 17 (by decide)) rfl rfl wf_X12_33 rfl dX12_init_269 ?_
  refine gc_aload_n hC 0 dX12_init_272 rfl rfl ?_
  refine gc_bipush hC dX12_init_273 (by decide) ?_
  refine gc_newa hC (atype := .int) 0 20 103 cs_206 (by decide) rfl wa_int (fun _ => rfl) (fun _ h1 h2 => Option.some.inj (h2.symm.trans h1)) cl_205 rfl rfl (by decide) (by decide) (Nat.le_of_ble_eq_true rfl) (Nat.le_of_ble_eq_true rfl) (Nat.le_of_ble_eq_true rfl) dX12_init_275 ?_
  refine gc_putr hC hin cs_207 okX12 tnX12 cg_206_95 18 (by decide) (by decide) rfl rfl (tnX12.1 18 (by decide)) rfl rfl wf_X12_36 rfl dX12_init_277 ?_
  refine gc_aload_n hC 0 dX12_init_280 rfl rfl ?_
  refine gc_bipush hC dX12_init_281 (by decide) ?_
  refine gc_newa hC (atype := .int) 0 20 104 cs_208 (by decide) rfl wa_int (fun _ => rfl) (fun _ h1 h2 => Option.some.inj (h2.symm.trans h1)) cl_207 rfl rfl (by decide) (by decide) (Nat.le_of_ble_eq_true rfl) (Nat.le_of_ble_eq_true rfl) (Nat.le_of_ble_eq_true rfl) dX12_init_283 ?_
  refine gc_putr hC hin cs_209 okX12 tnX12 cg_208_95 19 (by decide) (by decide) rfl rfl (tnX12.1 19 (by decide)) rfl rfl wf_X12_39 rfl dX12_init_285 ?_
  refine gc_aload_n hC 0 dX12_init_288 rfl rfl ?_
  refine gc_bipush hC dX12_init_289 (by decide) ?_
  refine gc_newa hC (atype := .int) 0 20 105 cs_210 (by decide) rfl wa_int (fun _ => rfl) (fun _ h1 h2 => Option.some.inj (h2.symm.trans h1)) cl_209 rfl rfl (by decide) (by decide) (Nat.le_of_ble_eq_true rfl) (Nat.le_of_ble_eq_true rfl) (Nat.le_of_ble_eq_true rfl) dX12_init_291 ?_
  refine gc_putr hC hin cs_211 okX12 tnX12 cg_210_95 20 (by decide) (by decide) rfl rfl (tnX12.1 20 (by decide)) rfl rfl wf_X12_42 rfl dX12_init_293 ?_
  refine gc_aload_n hC 0 dX12_init_296 rfl rfl ?_
  refine gc_bipush hC dX12_init_297 (by decide) ?_
  refine gc_newa hC (atype := .int) 0 20 106 cs_212 (by decide) rfl wa_int (fun _ => rfl) (fun _ h1 h2 => Option.some.inj (h2.symm.trans h1)) cl_211 rfl rfl (by decide) (by decide) (Nat.le_of_ble_eq_true rfl) (Nat.le_of_ble_eq_true rfl) (Nat.le_of_ble_eq_true rfl) dX12_init_299 ?_
  refine gc_putr hC hin cs_213 okX12 tnX12 cg_212_95 21 (by decide) (by decide) rfl rfl (tnX12.1 21 (by decide)) rfl rfl wf_X12_45 rfl dX12_init_301 ?_
  refine gc_aload_n hC 0 dX12_init_304 rfl rfl ?_
  refine gc_bipush hC dX12_init_305 (by decide) ?_
  refine gc_newa hC (atype := .int) 0 30 107 cs_214 (by decide) rfl wa_int (fun _ => rfl) (fun _ h1 h2 => Option.some.inj (h2.symm.trans h1)) cl_213 rfl rfl (by decide) (by decide) (Nat.le_of_ble_eq_true rfl) (Nat.le_of_ble_eq_true rfl) (Nat.le_of_ble_eq_true rfl) dX12_init_307 ?_
  refine gc_putr hC hin cs_215 okX12 tnX12 cg_214_95 22 (by decide) (by decide) rfl rfl (tnX12.1 22 (by decide)) rfl rfl wf_X12_48 rfl dX12_init_309 ?_
  refine gc_aload_n hC 0 dX12_init_312 rfl rfl ?_
  refine gc_bipush hC dX12_init_313 (by decide) ?_
  refine gc_newa hC (atype := .int) 0 20 108 cs_216 (by decide) rfl wa_int (fun _ => rfl) (fun _ h1 h2 => Option.some.inj (h2.symm.trans h1)) cl_215 rfl rfl (by decide) (by decide) (Nat.le_of_ble_eq_true rfl) (Nat.le_of_ble_eq_true rfl) (Nat.le_of_ble_eq_true rfl) dX12_init_315 ?_
  refine gc_putr hC hin cs_217 okX12 tnX12 cg_216_95 23 (by decide) (by decide) rfl rfl (tnX12.1 23 (by decide)) rfl rfl wf_X12_51 rfl dX12_init_317 ?_
  refine gc_aload_n hC 0 dX12_init_320 rfl rfl ?_
  refine gc_bipush hC dX12_init_321 (by decide) ?_
  refine gc_newa hC (atype := .int) 0 20 109 cs_218 (by decide) rfl wa_int (fun _ => rfl) (fun _ h1 h2 => Option.some.inj (h2.symm.trans h1)) cl_217 rfl rfl (by decide) (by decide) (Nat.le_of_ble_eq_true rfl) (Nat.le_of_ble_eq_true rfl) (Nat.le_of_ble_eq_true rfl) dX12_init_323 ?_
  refine gc_putr hC hin cs_219 okX12 tnX12 cg_218_95 24 (by decide) (by decide) rfl rfl (tnX12.1 24 (by decide)) rfl rfl wf_X12_54 rfl dX12_init_325 ?_
  refine gc_aload_n hC 0 dX12_init_328 rfl rfl ?_
  refine gc_bipush hC dX12_init_329 (by decide) ?_
  refine gc_newa hC (atype := .int) 0 30 110 cs_220 (by decide) rfl wa_int (fun _ => rfl) (fun _ h1 h2 => Option.some.inj (h2.symm.trans h1)) cl_219 rfl rfl (by decide) (by decide) (Nat.le_of_ble_eq_true rfl) (Nat.le_of_ble_eq_true rfl) (Nat.le_of_ble_eq_true rfl) dX12_init_331 ?_
  refine gc_putr hC hin cs_221 okX12 tnX12 cg_220_95 25 (by decide) (by decide) rfl rfl (tnX12.1 25 (by decide)) rfl rfl wf_X12_57 rfl dX12_init_333 ?_
  refine gc_aload_n hC 0 dX12_init_336 rfl rfl ?_
  refine gc_bipush hC dX12_init_337 (by decide) ?_
  refine gc_newa hC (atype := .int) 0 30 111 cs_222 (by decide) rfl wa_int (fun _ => rfl) (fun _ h1 h2 => Option.some.inj (h2.symm.trans h1)) cl_221 rfl rfl (by decide) (by decide) (Nat.le_of_ble_eq_true rfl) (Nat.le_of_ble_eq_true rfl) (Nat.le_of_ble_eq_true rfl) dX12_init_339 ?_
  refine gc_putr hC hin cs_223 okX12 tnX12 cg_222_95 26 (by decide) (by decide) rfl rfl (tnX12.1 26 (by decide)) rfl rfl wf_X12_60 rfl dX12_init_341 ?_
  refine gc_aload_n hC 0 dX12_init_344 rfl rfl ?_
  refine gc_bipush hC dX12_init_345 (by decide) ?_
  refine gc_newa hC (atype := .int) 0 90 112 cs_224 (by decide) rfl wa_int (fun _ => rfl) (fun _ h1 h2 => Option.some.inj (h2.symm.trans h1)) cl_223 rfl rfl (by decide) (by decide) (Nat.le_of_ble_eq_true rfl) (Nat.le_of_ble_eq_true rfl) (Nat.le_of_ble_eq_true rfl) dX12_init_347 ?_
  refine gc_putr hC hin cs_225 okX12 tnX12 cg_224_95 27 (by decide) (by decide) rfl rfl (tnX12.1 27 (by decide)) rfl rfl wf_X12_63 rfl dX12_init_349 ?_
  refine gc_aload_n hC 0 dX12_init_352 rfl rfl ?_
  refine gc_bipush hC dX12_init_353 (by decide) ?_
  refine gc_newa hC (atype := .int) 0 90 113 cs_226 (by decide) rfl wa_int (fun _ => rfl) (fun _ h1 h2 => Option.some.inj (h2.symm.trans h1)) cl_225 rfl rfl (by decide) (by decide) (Nat.le_of_ble_eq_true rfl) (Nat.le_of_ble_eq_true rfl) (Nat.le_of_ble_eq_true rfl) dX12_init_355 ?_
  refine gc_putr hC hin cs_227 okX12 tnX12 cg_226_95 28 (by decide) (by decide) rfl rfl (tnX12.1 28 (by decide)) rfl rfl wf_X12_66 rfl dX12_init_357 ?_
  refine gc_aload_n hC 0 dX12_init_360 rfl rfl ?_
  refine gc_bipush hC dX12_init_361 (by decide) ?_
  refine gc_newa hC (atype := .int) 0 90 114 cs_228 (by decide) rfl wa_int (fun _ => rfl) (fun _ h1 h2 => Option.some.inj (h2.symm.trans h1)) cl_227 rfl rfl (by decide) (by decide) (Nat.le_of_ble_eq_true rfl) (Nat.le_of_ble_eq_true rfl) (Nat.le_of_ble_eq_true rfl) dX12_init_363 ?_
  refine gc_putr hC hin cs_229 okX12 tnX12 cg_228_95 29 (by decide) (by decide) rfl rfl (tnX12.1 29 (by decide)) rfl rfl wf_X12_69 rfl dX12_init_365 ?_
  refine gc_aload_n hC 0 dX12_init_368 rfl rfl ?_
  refine gc_bipush hC dX12_init_369 (by decide) ?_
  refine gc_newa hC (atype := .int) 0 90 115 cs_230 (by decide) rfl wa_int (fun _ => rfl) (fun _ h1 h2 => Option.some.inj (h2.symm.trans h1)) cl_229 rfl rfl (by decide) (by decide) (Nat.le_of_ble_eq_true rfl) (Nat.le_of_ble_eq_true rfl) (Nat.le_of_ble_eq_true rfl) dX12_init_371 ?_
  refine gc_putr hC hin cs_231 okX12 tnX12 cg_230_95 30 (by decide) (by decide) rfl rfl (tnX12.1 30 (by decide)) rfl rfl wf_X12_72 rfl dX12_init_373 ?_
  refine gc_aload_n hC 0 dX12_init_376 rfl rfl ?_
  refine gc_bipush hC dX12_init_377 (by decide) ?_
  refine gc_newa hC (atype := .long) 4 20 116 cs_232 (by decide) rfl wa_long (fun _ => rfl) (fun _ h1 h2 => Option.some.inj (h2.symm.trans h1)) cl_231 rfl rfl (by decide) (by decide) (Nat.le_of_ble_eq_true rfl) (Nat.le_of_ble_eq_true rfl) (Nat.le_of_ble_eq_true rfl) dX12_init_379 ?_
  refine gc_putr hC hin cs_233 okX12 tnX12 cg_232_95 31 (by decide) (by decide) rfl rfl (tnX12.1 31 (by decide)) rfl rfl wf_X12_75 rfl dX12_init_381 ?_
  refine gc_aload_n hC 0 dX12_init_384 rfl rfl ?_
  refine gc_bipush hC dX12_init_385 (by decide) ?_
  refine gc_newa hC (atype := .int) 0 20 117 cs_234 (by decide) rfl wa_int (fun _ => rfl) (fun _ h1 h2 => Option.some.inj (h2.symm.trans h1)) cl_233 rfl rfl (by decide) (by decide) (Nat.le_of_ble_eq_true rfl) (Nat.le_of_ble_eq_true rfl) (Nat.le_of_ble_eq_true rfl) dX12_init_387 ?_
  refine gc_putr hC hin cs_235 okX12 tnX12 cg_234_95 32 (by decide) (by decide) rfl rfl (tnX12.1 32 (by decide)) rfl rfl wf_X12_79 rfl dX12_init_389 ?_
  refine gc_aload_n hC 0 dX12_init_392 rfl rfl ?_
  refine gc_bipush hC dX12_init_393 (by decide) ?_
  refine gc_newa hC (atype := .int) 0 30 118 cs_236 (by decide) rfl wa_int (fun _ => rfl) (fun _ h1 h2 => Option.some.inj (h2.symm.trans h1)) cl_235 rfl rfl (by decide) (by decide) (Nat.le_of_ble_eq_true rfl) (Nat.le_of_ble_eq_true rfl) (Nat.le_of_ble_eq_true rfl) dX12_init_395 ?_
  refine gc_putr hC hin cs_237 okX12 tnX12 cg_236_95 33 (by decide) (by decide) rfl rfl (tnX12.1 33 (by decide)) rfl rfl wf_X12_82 rfl dX12_init_397 ?_
  refine gc_aload_n hC 0 dX12_init_400 rfl rfl ?_
  refine gc_sipush hC dX12_init_401 (by decide) ?_
  refine gc_newa hC (atype := .int) 0 183 119 cs_238 (by decide) rfl wa_int (fun _ => rfl) (fun _ h1 h2 => Option.some.inj (h2.symm.trans h1)) cl_237 rfl rfl (by decide) (by decide) (Nat.le_of_ble_eq_true rfl) (Nat.le_of_ble_eq_true rfl) (Nat.le_of_ble_eq_true rfl) dX12_init_404 ?_
  refine gc_putr hC hin cs_239 okX12 tnX12 cg_238_95 34 (by decide) (by decide) rfl rfl (tnX12.1 34 (by decide)) rfl rfl wf_X12_85 rfl dX12_init_406 ?_
  refine gc_aload_n hC 0 dX12_init_409 rfl rfl ?_
  refine gc_bipush hC dX12_init_410 (by decide) ?_
  refine gc_newa hC (atype := .int) 0 30 120 cs_240 (by decide) rfl wa_int (fun _ => rfl) (fun _ h1 h2 => Option.some.inj (h2.symm.trans h1)) cl_239 rfl rfl (by decide) (by decide) (Nat.le_of_ble_eq_true rfl) (Nat.le_of_ble_eq_true rfl) (Nat.le_of_ble_eq_true rfl) dX12_init_412 ?_
  refine gc_putr hC hin cs_241 okX12 tnX12 cg_240_95 35 (by decide) (by decide) rfl rfl (tnX12.1 35 (by decide)) rfl rfl wf_X12_88 rfl dX12_init_414 ?_
  refine gc_aload_n hC 0 dX12_init_417 rfl rfl ?_
  refine gc_bipush hC dX12_init_418 (by decide) ?_
  refine gc_newa hC (atype := .boolean) 3 30 121 cs_242 (by decide) rfl wa_boolean (fun _ => rfl) (fun _ h1 h2 => Option.some.inj (h2.symm.trans h1)) cl_241 rfl rfl (by decide) (by decide) (Nat.le_of_ble_eq_true rfl) (Nat.le_of_ble_eq_true rfl) (Nat.le_of_ble_eq_true rfl) dX12_init_420 ?_
  refine gc_putr hC hin cs_243 okX12 tnX12 cg_242_95 36 (by decide) (by decide) rfl rfl (tnX12.1 36 (by decide)) rfl rfl wf_X12_91 rfl dX12_init_422 ?_
  refine gc_aload_n hC 0 dX12_init_425 rfl rfl ?_
  refine gc_bipush hC dX12_init_426 (by decide) ?_
  refine gc_newa hC (atype := .int) 0 20 122 cs_244 (by decide) rfl wa_int (fun _ => rfl) (fun _ h1 h2 => Option.some.inj (h2.symm.trans h1)) cl_243 rfl rfl (by decide) (by decide) (Nat.le_of_ble_eq_true rfl) (Nat.le_of_ble_eq_true rfl) (Nat.le_of_ble_eq_true rfl) dX12_init_428 ?_
  refine gc_putr hC hin cs_245 okX12 tnX12 cg_244_95 37 (by decide) (by decide) rfl rfl (tnX12.1 37 (by decide)) rfl rfl wf_X12_95 rfl dX12_init_430 ?_
  refine gc_aload_n hC 0 dX12_init_433 rfl rfl ?_
  refine gc_bipush hC dX12_init_434 (by decide) ?_
  refine gc_newa hC (atype := .int) 0 24 123 cs_246 (by decide) rfl wa_int (fun _ => rfl) (fun _ h1 h2 => Option.some.inj (h2.symm.trans h1)) cl_245 rfl rfl (by decide) (by decide) (Nat.le_of_ble_eq_true rfl) (Nat.le_of_ble_eq_true rfl) (Nat.le_of_ble_eq_true rfl) dX12_init_436 ?_
  refine gc_putr hC hin cs_247 okX12 tnX12 cg_246_95 39 (by decide) (by decide) rfl rfl (tnX12.1 39 (by decide)) rfl rfl wf_X12_98 rfl dX12_init_438 ?_
  refine gc_aload_n hC 0 dX12_init_441 rfl rfl ?_
  refine gc_sipush hC dX12_init_442 (by decide) ?_
  refine gc_newa hC (atype := .int) 0 3660 124 cs_248 (by decide) rfl wa_int (fun _ => rfl) (fun _ h1 h2 => Option.some.inj (h2.symm.trans h1)) cl_247 rfl rfl (by decide) (by decide) (Nat.le_of_ble_eq_true rfl) (Nat.le_of_ble_eq_true rfl) (Nat.le_of_ble_eq_true rfl) dX12_init_445 ?_
  refine gc_putr hC hin cs_249 okX12 tnX12 cg_248_95 40 (by decide) (by decide) rfl rfl (tnX12.1 40 (by decide)) rfl rfl wf_X12_101 rfl dX12_init_447 ?_
  refine gc_aload_n hC 0 dX12_init_450 rfl rfl ?_
  refine gc_bipush hC dX12_init_451 (by decide) ?_
  refine gc_newa hC (atype := .int) 0 120 125 cs_250 (by decide) rfl wa_int (fun _ => rfl) (fun _ h1 h2 => Option.some.inj (h2.symm.trans h1)) cl_249 rfl rfl (by decide) (by decide) (Nat.le_of_ble_eq_true rfl) (Nat.le_of_ble_eq_true rfl) (Nat.le_of_ble_eq_true rfl) dX12_init_453 ?_
  refine gc_putr hC hin cs_251 okX12 tnX12 cg_250_95 45 (by decide) (by decide) rfl rfl (tnX12.1 45 (by decide)) rfl rfl wf_X12_104 rfl dX12_init_455 ?_
  refine gc_aload_n hC 0 dX12_init_458 rfl rfl ?_
  refine gc_lconst (n := 1) hC dX12_init_459 (by decide) ?_
  refine gc_putn (v := 1) hC okX12 tnX12 cg_251_95 46 (by decide) rfl rfl (tnX12.1 46 (by decide)) (fun g hg => by rw [← hg]; rfl) rfl rfl wf_X12_107 dX12_init_460 ?_
  refine gc_aload_n hC 0 dX12_init_463 rfl rfl ?_
  refine gc_sipush hC dX12_init_464 (by decide) ?_
  refine gc_newa hC (atype := .int) 0 153 126 cs_252 (by decide) rfl wa_int (fun _ => rfl) (fun _ h1 h2 => Option.some.inj (h2.symm.trans h1)) cl_251 rfl rfl (by decide) (by decide) (Nat.le_of_ble_eq_true rfl) (Nat.le_of_ble_eq_true rfl) (Nat.le_of_ble_eq_true rfl) dX12_init_467 ?_
  refine gc_putr hC hin cs_253 okX12 tnX12 cg_252_95 47 (by decide) (by decide) rfl rfl (tnX12.1 47 (by decide)) rfl rfl wf_X12_111 rfl dX12_init_469 ?_
  exact gc_ret hC hN dX12_init_472
