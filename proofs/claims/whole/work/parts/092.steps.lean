def cs_0 : List Sh := []
def cm_0 : Mem := fun _ _ => 0
theorem cl_0 : cs_0.length = 0 := by decide +kernel
def cs_1 : List Sh := cs_0 ++ [.inr (11, [.inr 2, .inr 2, .inr 2, .inr 2, .inr 2, .inr 0, .inr 2, .inr 2, .inr 2, .inr 2, .inr 2, .inr 2, .inr 2, .inr 2, .inr 2, .inr 2, .inr 0])]
theorem cl_1 : cs_1.length = 1 := by decide +kernel
def cs_2 : List Sh := cs_1 ++ [.inr (10, [.inr 2, .inr 0])]
theorem cl_2 : cs_2.length = 2 := by decide +kernel
def cs_3 : List Sh := cs_2 ++ [.inl (1, 1600)]
theorem cg_3_1 : cs_3[1]? = some (.inr (10, [.inr 2, .inr 0])) := by decide +kernel
def cs_4 : List Sh := cs_3.set 1 (.inr (10, [.inl 2, .inr 0]))
theorem cg_4_0 : cs_4[0]? = some (.inr (11, [.inr 2, .inr 2, .inr 2, .inr 2, .inr 2, .inr 0, .inr 2, .inr 2, .inr 2, .inr 2, .inr 2, .inr 2, .inr 2, .inr 2, .inr 2, .inr 2, .inr 0])) := by decide +kernel
def cs_5 : List Sh := cs_4.set 0 (.inr (11, [.inl 1, .inr 2, .inr 2, .inr 2, .inr 2, .inr 0, .inr 2, .inr 2, .inr 2, .inr 2, .inr 2, .inr 2, .inr 2, .inr 2, .inr 2, .inr 2, .inr 0]))
theorem cl_5 : cs_5.length = 3 := by decide +kernel
def cs_6 : List Sh := cs_5 ++ [.inr (6, [.inr 2, .inr 2, .inr 2, .inr 0, .inr 0, .inr 0, .inr 2, .inr 0])]
theorem cg_6_0 : cs_6[0]? = some (.inr (11, [.inl 1, .inr 2, .inr 2, .inr 2, .inr 2, .inr 0, .inr 2, .inr 2, .inr 2, .inr 2, .inr 2, .inr 2, .inr 2, .inr 2, .inr 2, .inr 2, .inr 0])) := by decide +kernel
theorem cl_6 : cs_6.length = 4 := by decide +kernel
def cs_7 : List Sh := cs_6 ++ [.inr (5, [.inr 0, .inr 0, .inr 2, .inr 2, .inr 2, .inr 2, .inr 2])]
theorem cl_7 : cs_7.length = 5 := by decide +kernel
def cs_8 : List Sh := cs_7 ++ [.inl (0, 30)]
theorem cg_8_4 : cs_8[4]? = some (.inr (5, [.inr 0, .inr 0, .inr 2, .inr 2, .inr 2, .inr 2, .inr 2])) := by decide +kernel
def cs_9 : List Sh := cs_8.set 4 (.inr (5, [.inr 0, .inr 0, .inl 5, .inr 2, .inr 2, .inr 2, .inr 2]))
theorem cl_9 : cs_9.length = 6 := by decide +kernel
def cs_10 : List Sh := cs_9 ++ [.inl (0, 30)]
theorem cg_10_4 : cs_10[4]? = some (.inr (5, [.inr 0, .inr 0, .inl 5, .inr 2, .inr 2, .inr 2, .inr 2])) := by decide +kernel
def cs_11 : List Sh := cs_10.set 4 (.inr (5, [.inr 0, .inr 0, .inl 5, .inl 6, .inr 2, .inr 2, .inr 2]))
theorem cl_11 : cs_11.length = 7 := by decide +kernel
def cs_12 : List Sh := cs_11 ++ [.inl (0, 30)]
theorem cg_12_4 : cs_12[4]? = some (.inr (5, [.inr 0, .inr 0, .inl 5, .inl 6, .inr 2, .inr 2, .inr 2])) := by decide +kernel
def cs_13 : List Sh := cs_12.set 4 (.inr (5, [.inr 0, .inr 0, .inl 5, .inl 6, .inl 7, .inr 2, .inr 2]))
theorem cl_13 : cs_13.length = 8 := by decide +kernel
def cs_14 : List Sh := cs_13 ++ [.inl (0, 30)]
theorem cg_14_4 : cs_14[4]? = some (.inr (5, [.inr 0, .inr 0, .inl 5, .inl 6, .inl 7, .inr 2, .inr 2])) := by decide +kernel
def cs_15 : List Sh := cs_14.set 4 (.inr (5, [.inr 0, .inr 0, .inl 5, .inl 6, .inl 7, .inl 8, .inr 2]))
theorem cl_15 : cs_15.length = 9 := by decide +kernel
def cs_16 : List Sh := cs_15 ++ [.inl (0, 30)]
theorem cg_16_4 : cs_16[4]? = some (.inr (5, [.inr 0, .inr 0, .inl 5, .inl 6, .inl 7, .inl 8, .inr 2])) := by decide +kernel
def cs_17 : List Sh := cs_16.set 4 (.inr (5, [.inr 0, .inr 0, .inl 5, .inl 6, .inl 7, .inl 8, .inl 9]))
theorem cg_17_3 : cs_17[3]? = some (.inr (6, [.inr 2, .inr 2, .inr 2, .inr 0, .inr 0, .inr 0, .inr 2, .inr 0])) := by decide +kernel
def cs_18 : List Sh := cs_17.set 3 (.inr (6, [.inl 4, .inr 2, .inr 2, .inr 0, .inr 0, .inr 0, .inr 2, .inr 0]))
theorem cl_18 : cs_18.length = 10 := by decide +kernel
def cs_19 : List Sh := cs_18 ++ [.inl (0, 20)]
theorem cg_19_3 : cs_19[3]? = some (.inr (6, [.inl 4, .inr 2, .inr 2, .inr 0, .inr 0, .inr 0, .inr 2, .inr 0])) := by decide +kernel
def cs_20 : List Sh := cs_19.set 3 (.inr (6, [.inl 4, .inl 10, .inr 2, .inr 0, .inr 0, .inr 0, .inr 2, .inr 0]))
theorem cl_20 : cs_20.length = 11 := by decide +kernel
def cs_21 : List Sh := cs_20 ++ [.inl (0, 10)]
theorem cg_21_3 : cs_21[3]? = some (.inr (6, [.inl 4, .inl 10, .inr 2, .inr 0, .inr 0, .inr 0, .inr 2, .inr 0])) := by decide +kernel
def cs_22 : List Sh := cs_21.set 3 (.inr (6, [.inl 4, .inl 10, .inl 11, .inr 0, .inr 0, .inr 0, .inr 2, .inr 0]))
theorem cg_22_3 : cs_22[3]? = some (.inr (6, [.inl 4, .inl 10, .inl 11, .inr 0, .inr 0, .inr 0, .inr 2, .inr 0])) := by decide +kernel
def cm_1 : Mem := st cm_0 3 5 (-1)
def cs_23 : List Sh := cs_22.set 3 (.inr (6, [.inl 4, .inl 10, .inl 11, .inr 0, .inr 0, .inr 0, .inl 1, .inr 0]))
theorem cg_23_0 : cs_23[0]? = some (.inr (11, [.inl 1, .inr 2, .inr 2, .inr 2, .inr 2, .inr 0, .inr 2, .inr 2, .inr 2, .inr 2, .inr 2, .inr 2, .inr 2, .inr 2, .inr 2, .inr 2, .inr 0])) := by decide +kernel
def cs_24 : List Sh := cs_23.set 0 (.inr (11, [.inl 1, .inl 3, .inr 2, .inr 2, .inr 2, .inr 0, .inr 2, .inr 2, .inr 2, .inr 2, .inr 2, .inr 2, .inr 2, .inr 2, .inr 2, .inr 2, .inr 0]))
theorem cl_24 : cs_24.length = 12 := by decide +kernel
def cs_25 : List Sh := cs_24 ++ [.inr (5, [.inr 0, .inr 0, .inr 2, .inr 2, .inr 2, .inr 2, .inr 2])]
theorem cl_25 : cs_25.length = 13 := by decide +kernel
def cs_26 : List Sh := cs_25 ++ [.inl (0, 30)]
theorem cg_26_12 : cs_26[12]? = some (.inr (5, [.inr 0, .inr 0, .inr 2, .inr 2, .inr 2, .inr 2, .inr 2])) := by decide +kernel
def cs_27 : List Sh := cs_26.set 12 (.inr (5, [.inr 0, .inr 0, .inl 13, .inr 2, .inr 2, .inr 2, .inr 2]))
theorem cl_27 : cs_27.length = 14 := by decide +kernel
def cs_28 : List Sh := cs_27 ++ [.inl (0, 30)]
theorem cg_28_12 : cs_28[12]? = some (.inr (5, [.inr 0, .inr 0, .inl 13, .inr 2, .inr 2, .inr 2, .inr 2])) := by decide +kernel
def cs_29 : List Sh := cs_28.set 12 (.inr (5, [.inr 0, .inr 0, .inl 13, .inl 14, .inr 2, .inr 2, .inr 2]))
theorem cl_29 : cs_29.length = 15 := by decide +kernel
def cs_30 : List Sh := cs_29 ++ [.inl (0, 30)]
theorem cg_30_12 : cs_30[12]? = some (.inr (5, [.inr 0, .inr 0, .inl 13, .inl 14, .inr 2, .inr 2, .inr 2])) := by decide +kernel
def cs_31 : List Sh := cs_30.set 12 (.inr (5, [.inr 0, .inr 0, .inl 13, .inl 14, .inl 15, .inr 2, .inr 2]))
theorem cl_31 : cs_31.length = 16 := by decide +kernel
def cs_32 : List Sh := cs_31 ++ [.inl (0, 30)]
theorem cg_32_12 : cs_32[12]? = some (.inr (5, [.inr 0, .inr 0, .inl 13, .inl 14, .inl 15, .inr 2, .inr 2])) := by decide +kernel
def cs_33 : List Sh := cs_32.set 12 (.inr (5, [.inr 0, .inr 0, .inl 13, .inl 14, .inl 15, .inl 16, .inr 2]))
theorem cl_33 : cs_33.length = 17 := by decide +kernel
def cs_34 : List Sh := cs_33 ++ [.inl (0, 30)]
theorem cg_34_12 : cs_34[12]? = some (.inr (5, [.inr 0, .inr 0, .inl 13, .inl 14, .inl 15, .inl 16, .inr 2])) := by decide +kernel
def cs_35 : List Sh := cs_34.set 12 (.inr (5, [.inr 0, .inr 0, .inl 13, .inl 14, .inl 15, .inl 16, .inl 17]))
theorem cg_35_0 : cs_35[0]? = some (.inr (11, [.inl 1, .inl 3, .inr 2, .inr 2, .inr 2, .inr 0, .inr 2, .inr 2, .inr 2, .inr 2, .inr 2, .inr 2, .inr 2, .inr 2, .inr 2, .inr 2, .inr 0])) := by decide +kernel
def cs_36 : List Sh := cs_35.set 0 (.inr (11, [.inl 1, .inl 3, .inl 12, .inr 2, .inr 2, .inr 0, .inr 2, .inr 2, .inr 2, .inr 2, .inr 2, .inr 2, .inr 2, .inr 2, .inr 2, .inr 2, .inr 0]))
theorem cl_36 : cs_36.length = 18 := by decide +kernel
def cs_37 : List Sh := cs_36 ++ [.inl (0, 20)]
theorem cg_37_0 : cs_37[0]? = some (.inr (11, [.inl 1, .inl 3, .inl 12, .inr 2, .inr 2, .inr 0, .inr 2, .inr 2, .inr 2, .inr 2, .inr 2, .inr 2, .inr 2, .inr 2, .inr 2, .inr 2, .inr 0])) := by decide +kernel
def cs_38 : List Sh := cs_37.set 0 (.inr (11, [.inl 1, .inl 3, .inl 12, .inl 18, .inr 2, .inr 0, .inr 2, .inr 2, .inr 2, .inr 2, .inr 2, .inr 2, .inr 2, .inr 2, .inr 2, .inr 2, .inr 0]))
theorem cl_38 : cs_38.length = 19 := by decide +kernel
def cs_39 : List Sh := cs_38 ++ [.inl (0, 10)]
theorem cg_39_0 : cs_39[0]? = some (.inr (11, [.inl 1, .inl 3, .inl 12, .inl 18, .inr 2, .inr 0, .inr 2, .inr 2, .inr 2, .inr 2, .inr 2, .inr 2, .inr 2, .inr 2, .inr 2, .inr 2, .inr 0])) := by decide +kernel
def cs_40 : List Sh := cs_39.set 0 (.inr (11, [.inl 1, .inl 3, .inl 12, .inl 18, .inl 19, .inr 0, .inr 2, .inr 2, .inr 2, .inr 2, .inr 2, .inr 2, .inr 2, .inr 2, .inr 2, .inr 2, .inr 0]))
theorem cl_40 : cs_40.length = 20 := by decide +kernel
def cs_41 : List Sh := cs_40 ++ [.inr (1, [.inr 2, .inr 2, .inr 2, .inr 2, .inr 2, .inr 2, .inr 2, .inr 2, .inr 2, .inr 2, .inr 2, .inr 0, .inr 0])]
theorem cl_41 : cs_41.length = 21 := by decide +kernel
def cs_42 : List Sh := cs_41 ++ [.inl (0, 20)]
theorem cg_42_20 : cs_42[20]? = some (.inr (1, [.inr 2, .inr 2, .inr 2, .inr 2, .inr 2, .inr 2, .inr 2, .inr 2, .inr 2, .inr 2, .inr 2, .inr 0, .inr 0])) := by decide +kernel
def cs_43 : List Sh := cs_42.set 20 (.inr (1, [.inl 21, .inr 2, .inr 2, .inr 2, .inr 2, .inr 2, .inr 2, .inr 2, .inr 2, .inr 2, .inr 2, .inr 0, .inr 0]))
theorem cl_43 : cs_43.length = 22 := by decide +kernel
def cs_44 : List Sh := cs_43 ++ [.inl (0, 30)]
theorem cg_44_20 : cs_44[20]? = some (.inr (1, [.inl 21, .inr 2, .inr 2, .inr 2, .inr 2, .inr 2, .inr 2, .inr 2, .inr 2, .inr 2, .inr 2, .inr 0, .inr 0])) := by decide +kernel
def cs_45 : List Sh := cs_44.set 20 (.inr (1, [.inl 21, .inl 22, .inr 2, .inr 2, .inr 2, .inr 2, .inr 2, .inr 2, .inr 2, .inr 2, .inr 2, .inr 0, .inr 0]))
theorem cl_45 : cs_45.length = 23 := by decide +kernel
def cs_46 : List Sh := cs_45 ++ [.inl (0, 20)]
theorem cg_46_20 : cs_46[20]? = some (.inr (1, [.inl 21, .inl 22, .inr 2, .inr 2, .inr 2, .inr 2, .inr 2, .inr 2, .inr 2, .inr 2, .inr 2, .inr 0, .inr 0])) := by decide +kernel
def cs_47 : List Sh := cs_46.set 20 (.inr (1, [.inl 21, .inl 22, .inl 23, .inr 2, .inr 2, .inr 2, .inr 2, .inr 2, .inr 2, .inr 2, .inr 2, .inr 0, .inr 0]))
theorem cl_47 : cs_47.length = 24 := by decide +kernel
def cs_48 : List Sh := cs_47 ++ [.inl (0, 20)]
theorem cg_48_20 : cs_48[20]? = some (.inr (1, [.inl 21, .inl 22, .inl 23, .inr 2, .inr 2, .inr 2, .inr 2, .inr 2, .inr 2, .inr 2, .inr 2, .inr 0, .inr 0])) := by decide +kernel
def cs_49 : List Sh := cs_48.set 20 (.inr (1, [.inl 21, .inl 22, .inl 23, .inl 24, .inr 2, .inr 2, .inr 2, .inr 2, .inr 2, .inr 2, .inr 2, .inr 0, .inr 0]))
theorem cl_49 : cs_49.length = 25 := by decide +kernel
def cs_50 : List Sh := cs_49 ++ [.inl (0, 20)]
theorem cg_50_20 : cs_50[20]? = some (.inr (1, [.inl 21, .inl 22, .inl 23, .inl 24, .inr 2, .inr 2, .inr 2, .inr 2, .inr 2, .inr 2, .inr 2, .inr 0, .inr 0])) := by decide +kernel
def cs_51 : List Sh := cs_50.set 20 (.inr (1, [.inl 21, .inl 22, .inl 23, .inl 24, .inl 25, .inr 2, .inr 2, .inr 2, .inr 2, .inr 2, .inr 2, .inr 0, .inr 0]))
theorem cl_51 : cs_51.length = 26 := by decide +kernel
def cs_52 : List Sh := cs_51 ++ [.inl (0, 20)]
theorem cg_52_20 : cs_52[20]? = some (.inr (1, [.inl 21, .inl 22, .inl 23, .inl 24, .inl 25, .inr 2, .inr 2, .inr 2, .inr 2, .inr 2, .inr 2, .inr 0, .inr 0])) := by decide +kernel
def cs_53 : List Sh := cs_52.set 20 (.inr (1, [.inl 21, .inl 22, .inl 23, .inl 24, .inl 25, .inl 26, .inr 2, .inr 2, .inr 2, .inr 2, .inr 2, .inr 0, .inr 0]))
theorem cl_53 : cs_53.length = 27 := by decide +kernel
def cs_54 : List Sh := cs_53 ++ [.inl (0, 20)]
theorem cg_54_20 : cs_54[20]? = some (.inr (1, [.inl 21, .inl 22, .inl 23, .inl 24, .inl 25, .inl 26, .inr 2, .inr 2, .inr 2, .inr 2, .inr 2, .inr 0, .inr 0])) := by decide +kernel
def cs_55 : List Sh := cs_54.set 20 (.inr (1, [.inl 21, .inl 22, .inl 23, .inl 24, .inl 25, .inl 26, .inl 27, .inr 2, .inr 2, .inr 2, .inr 2, .inr 0, .inr 0]))
theorem cl_55 : cs_55.length = 28 := by decide +kernel
def cs_56 : List Sh := cs_55 ++ [.inl (0, 20)]
theorem cg_56_20 : cs_56[20]? = some (.inr (1, [.inl 21, .inl 22, .inl 23, .inl 24, .inl 25, .inl 26, .inl 27, .inr 2, .inr 2, .inr 2, .inr 2, .inr 0, .inr 0])) := by decide +kernel
def cs_57 : List Sh := cs_56.set 20 (.inr (1, [.inl 21, .inl 22, .inl 23, .inl 24, .inl 25, .inl 26, .inl 27, .inl 28, .inr 2, .inr 2, .inr 2, .inr 0, .inr 0]))
theorem cl_57 : cs_57.length = 29 := by decide +kernel
def cs_58 : List Sh := cs_57 ++ [.inl (0, 30)]
theorem cg_58_20 : cs_58[20]? = some (.inr (1, [.inl 21, .inl 22, .inl 23, .inl 24, .inl 25, .inl 26, .inl 27, .inl 28, .inr 2, .inr 2, .inr 2, .inr 0, .inr 0])) := by decide +kernel
def cs_59 : List Sh := cs_58.set 20 (.inr (1, [.inl 21, .inl 22, .inl 23, .inl 24, .inl 25, .inl 26, .inl 27, .inl 28, .inl 29, .inr 2, .inr 2, .inr 0, .inr 0]))
theorem cl_59 : cs_59.length = 30 := by decide +kernel
def cs_60 : List Sh := cs_59 ++ [.inl (0, 30)]
theorem cg_60_20 : cs_60[20]? = some (.inr (1, [.inl 21, .inl 22, .inl 23, .inl 24, .inl 25, .inl 26, .inl 27, .inl 28, .inl 29, .inr 2, .inr 2, .inr 0, .inr 0])) := by decide +kernel
def cs_61 : List Sh := cs_60.set 20 (.inr (1, [.inl 21, .inl 22, .inl 23, .inl 24, .inl 25, .inl 26, .inl 27, .inl 28, .inl 29, .inl 30, .inr 2, .inr 0, .inr 0]))
theorem cl_61 : cs_61.length = 31 := by decide +kernel
def cs_62 : List Sh := cs_61 ++ [.inr (2, [.inr 2, .inr 2, .inr 2, .inr 2])]
theorem cl_62 : cs_62.length = 32 := by decide +kernel
def cs_63 : List Sh := cs_62 ++ [.inl (0, 30)]
theorem cg_63_31 : cs_63[31]? = some (.inr (2, [.inr 2, .inr 2, .inr 2, .inr 2])) := by decide +kernel
def cs_64 : List Sh := cs_63.set 31 (.inr (2, [.inl 32, .inr 2, .inr 2, .inr 2]))
theorem cl_64 : cs_64.length = 33 := by decide +kernel
def cs_65 : List Sh := cs_64 ++ [.inl (0, 20)]
theorem cg_65_31 : cs_65[31]? = some (.inr (2, [.inl 32, .inr 2, .inr 2, .inr 2])) := by decide +kernel
def cs_66 : List Sh := cs_65.set 31 (.inr (2, [.inl 32, .inl 33, .inr 2, .inr 2]))
theorem cl_66 : cs_66.length = 34 := by decide +kernel
def cs_67 : List Sh := cs_66 ++ [.inl (0, 20)]
theorem cg_67_31 : cs_67[31]? = some (.inr (2, [.inl 32, .inl 33, .inr 2, .inr 2])) := by decide +kernel
def cs_68 : List Sh := cs_67.set 31 (.inr (2, [.inl 32, .inl 33, .inl 34, .inr 2]))
theorem cl_68 : cs_68.length = 35 := by decide +kernel
def cs_69 : List Sh := cs_68 ++ [.inl (0, 20)]
theorem cg_69_31 : cs_69[31]? = some (.inr (2, [.inl 32, .inl 33, .inl 34, .inr 2])) := by decide +kernel
def cs_70 : List Sh := cs_69.set 31 (.inr (2, [.inl 32, .inl 33, .inl 34, .inl 35]))
theorem cg_70_20 : cs_70[20]? = some (.inr (1, [.inl 21, .inl 22, .inl 23, .inl 24, .inl 25, .inl 26, .inl 27, .inl 28, .inl 29, .inl 30, .inr 2, .inr 0, .inr 0])) := by decide +kernel
def cs_71 : List Sh := cs_70.set 20 (.inr (1, [.inl 21, .inl 22, .inl 23, .inl 24, .inl 25, .inl 26, .inl 27, .inl 28, .inl 29, .inl 30, .inl 31, .inr 0, .inr 0]))
theorem cg_71_0 : cs_71[0]? = some (.inr (11, [.inl 1, .inl 3, .inl 12, .inl 18, .inl 19, .inr 0, .inr 2, .inr 2, .inr 2, .inr 2, .inr 2, .inr 2, .inr 2, .inr 2, .inr 2, .inr 2, .inr 0])) := by decide +kernel
def cs_72 : List Sh := cs_71.set 0 (.inr (11, [.inl 1, .inl 3, .inl 12, .inl 18, .inl 19, .inr 0, .inl 20, .inr 2, .inr 2, .inr 2, .inr 2, .inr 2, .inr 2, .inr 2, .inr 2, .inr 2, .inr 0]))
theorem cl_72 : cs_72.length = 36 := by decide +kernel
def cs_73 : List Sh := cs_72 ++ [.inl (6, 3)]
theorem cl_73 : cs_73.length = 37 := by decide +kernel
def cs_74 : List Sh := cs_73 ++ [.inr (9, [.inr 2, .inr 2, .inr 2, .inr 2, .inr 2, .inr 2])]
theorem cl_74 : cs_74.length = 38 := by decide +kernel
def cs_75 : List Sh := cs_74 ++ [.inl (0, 20)]
theorem cg_75_37 : cs_75[37]? = some (.inr (9, [.inr 2, .inr 2, .inr 2, .inr 2, .inr 2, .inr 2])) := by decide +kernel
def cs_76 : List Sh := cs_75.set 37 (.inr (9, [.inl 38, .inr 2, .inr 2, .inr 2, .inr 2, .inr 2]))
theorem cl_76 : cs_76.length = 39 := by decide +kernel
def cs_77 : List Sh := cs_76 ++ [.inl (0, 20)]
theorem cg_77_37 : cs_77[37]? = some (.inr (9, [.inl 38, .inr 2, .inr 2, .inr 2, .inr 2, .inr 2])) := by decide +kernel
def cs_78 : List Sh := cs_77.set 37 (.inr (9, [.inl 38, .inl 39, .inr 2, .inr 2, .inr 2, .inr 2]))
theorem cl_78 : cs_78.length = 40 := by decide +kernel
def cs_79 : List Sh := cs_78 ++ [.inl (0, 30)]
theorem cg_79_37 : cs_79[37]? = some (.inr (9, [.inl 38, .inl 39, .inr 2, .inr 2, .inr 2, .inr 2])) := by decide +kernel
def cs_80 : List Sh := cs_79.set 37 (.inr (9, [.inl 38, .inl 39, .inl 40, .inr 2, .inr 2, .inr 2]))
theorem cl_80 : cs_80.length = 41 := by decide +kernel
def cs_81 : List Sh := cs_80 ++ [.inl (0, 30)]
theorem cg_81_37 : cs_81[37]? = some (.inr (9, [.inl 38, .inl 39, .inl 40, .inr 2, .inr 2, .inr 2])) := by decide +kernel
def cs_82 : List Sh := cs_81.set 37 (.inr (9, [.inl 38, .inl 39, .inl 40, .inl 41, .inr 2, .inr 2]))
theorem cl_82 : cs_82.length = 42 := by decide +kernel
def cs_83 : List Sh := cs_82 ++ [.inl (0, 30)]
theorem cg_83_37 : cs_83[37]? = some (.inr (9, [.inl 38, .inl 39, .inl 40, .inl 41, .inr 2, .inr 2])) := by decide +kernel
def cs_84 : List Sh := cs_83.set 37 (.inr (9, [.inl 38, .inl 39, .inl 40, .inl 41, .inl 42, .inr 2]))
theorem cl_84 : cs_84.length = 43 := by decide +kernel
def cs_85 : List Sh := cs_84 ++ [.inl (0, 30)]
theorem cg_85_37 : cs_85[37]? = some (.inr (9, [.inl 38, .inl 39, .inl 40, .inl 41, .inl 42, .inr 2])) := by decide +kernel
def cs_86 : List Sh := cs_85.set 37 (.inr (9, [.inl 38, .inl 39, .inl 40, .inl 41, .inl 42, .inl 43]))
theorem cg_86_36 : cs_86[36]? = some (.inl (6, 3)) := by decide +kernel
theorem cg_86_37 : cs_86[37]? = some (.inr (9, [.inl 38, .inl 39, .inl 40, .inl 41, .inl 42, .inl 43])) := by decide +kernel
def cs_87 : List Sh := cs_86.set 36 (.inl (7, 3))
theorem cl_87 : cs_87.length = 44 := by decide +kernel
def cs_88 : List Sh := cs_87 ++ [.inr (9, [.inr 2, .inr 2, .inr 2, .inr 2, .inr 2, .inr 2])]
theorem cl_88 : cs_88.length = 45 := by decide +kernel
def cs_89 : List Sh := cs_88 ++ [.inl (0, 20)]
theorem cg_89_44 : cs_89[44]? = some (.inr (9, [.inr 2, .inr 2, .inr 2, .inr 2, .inr 2, .inr 2])) := by decide +kernel
def cs_90 : List Sh := cs_89.set 44 (.inr (9, [.inl 45, .inr 2, .inr 2, .inr 2, .inr 2, .inr 2]))
theorem cl_90 : cs_90.length = 46 := by decide +kernel
def cs_91 : List Sh := cs_90 ++ [.inl (0, 20)]
theorem cg_91_44 : cs_91[44]? = some (.inr (9, [.inl 45, .inr 2, .inr 2, .inr 2, .inr 2, .inr 2])) := by decide +kernel
def cs_92 : List Sh := cs_91.set 44 (.inr (9, [.inl 45, .inl 46, .inr 2, .inr 2, .inr 2, .inr 2]))
theorem cl_92 : cs_92.length = 47 := by decide +kernel
def cs_93 : List Sh := cs_92 ++ [.inl (0, 30)]
theorem cg_93_44 : cs_93[44]? = some (.inr (9, [.inl 45, .inl 46, .inr 2, .inr 2, .inr 2, .inr 2])) := by decide +kernel
def cs_94 : List Sh := cs_93.set 44 (.inr (9, [.inl 45, .inl 46, .inl 47, .inr 2, .inr 2, .inr 2]))
theorem cl_94 : cs_94.length = 48 := by decide +kernel
def cs_95 : List Sh := cs_94 ++ [.inl (0, 30)]
theorem cg_95_44 : cs_95[44]? = some (.inr (9, [.inl 45, .inl 46, .inl 47, .inr 2, .inr 2, .inr 2])) := by decide +kernel
def cs_96 : List Sh := cs_95.set 44 (.inr (9, [.inl 45, .inl 46, .inl 47, .inl 48, .inr 2, .inr 2]))
theorem cl_96 : cs_96.length = 49 := by decide +kernel
def cs_97 : List Sh := cs_96 ++ [.inl (0, 30)]
theorem cg_97_44 : cs_97[44]? = some (.inr (9, [.inl 45, .inl 46, .inl 47, .inl 48, .inr 2, .inr 2])) := by decide +kernel
def cs_98 : List Sh := cs_97.set 44 (.inr (9, [.inl 45, .inl 46, .inl 47, .inl 48, .inl 49, .inr 2]))
theorem cl_98 : cs_98.length = 50 := by decide +kernel
def cs_99 : List Sh := cs_98 ++ [.inl (0, 30)]
theorem cg_99_44 : cs_99[44]? = some (.inr (9, [.inl 45, .inl 46, .inl 47, .inl 48, .inl 49, .inr 2])) := by decide +kernel
def cs_100 : List Sh := cs_99.set 44 (.inr (9, [.inl 45, .inl 46, .inl 47, .inl 48, .inl 49, .inl 50]))
theorem cg_100_36 : cs_100[36]? = some (.inl (7, 3)) := by decide +kernel
theorem cg_100_44 : cs_100[44]? = some (.inr (9, [.inl 45, .inl 46, .inl 47, .inl 48, .inl 49, .inl 50])) := by decide +kernel
def cs_101 : List Sh := cs_100.set 36 (.inl (8, 3))
theorem cl_101 : cs_101.length = 51 := by decide +kernel
def cs_102 : List Sh := cs_101 ++ [.inr (9, [.inr 2, .inr 2, .inr 2, .inr 2, .inr 2, .inr 2])]
theorem cl_102 : cs_102.length = 52 := by decide +kernel
def cs_103 : List Sh := cs_102 ++ [.inl (0, 20)]
theorem cg_103_51 : cs_103[51]? = some (.inr (9, [.inr 2, .inr 2, .inr 2, .inr 2, .inr 2, .inr 2])) := by decide +kernel
def cs_104 : List Sh := cs_103.set 51 (.inr (9, [.inl 52, .inr 2, .inr 2, .inr 2, .inr 2, .inr 2]))
theorem cl_104 : cs_104.length = 53 := by decide +kernel
def cs_105 : List Sh := cs_104 ++ [.inl (0, 20)]
theorem cg_105_51 : cs_105[51]? = some (.inr (9, [.inl 52, .inr 2, .inr 2, .inr 2, .inr 2, .inr 2])) := by decide +kernel
def cs_106 : List Sh := cs_105.set 51 (.inr (9, [.inl 52, .inl 53, .inr 2, .inr 2, .inr 2, .inr 2]))
theorem cl_106 : cs_106.length = 54 := by decide +kernel
def cs_107 : List Sh := cs_106 ++ [.inl (0, 30)]
theorem cg_107_51 : cs_107[51]? = some (.inr (9, [.inl 52, .inl 53, .inr 2, .inr 2, .inr 2, .inr 2])) := by decide +kernel
def cs_108 : List Sh := cs_107.set 51 (.inr (9, [.inl 52, .inl 53, .inl 54, .inr 2, .inr 2, .inr 2]))
theorem cl_108 : cs_108.length = 55 := by decide +kernel
def cs_109 : List Sh := cs_108 ++ [.inl (0, 30)]
theorem cg_109_51 : cs_109[51]? = some (.inr (9, [.inl 52, .inl 53, .inl 54, .inr 2, .inr 2, .inr 2])) := by decide +kernel
def cs_110 : List Sh := cs_109.set 51 (.inr (9, [.inl 52, .inl 53, .inl 54, .inl 55, .inr 2, .inr 2]))
theorem cl_110 : cs_110.length = 56 := by decide +kernel
def cs_111 : List Sh := cs_110 ++ [.inl (0, 30)]
theorem cg_111_51 : cs_111[51]? = some (.inr (9, [.inl 52, .inl 53, .inl 54, .inl 55, .inr 2, .inr 2])) := by decide +kernel
def cs_112 : List Sh := cs_111.set 51 (.inr (9, [.inl 52, .inl 53, .inl 54, .inl 55, .inl 56, .inr 2]))
theorem cl_112 : cs_112.length = 57 := by decide +kernel
def cs_113 : List Sh := cs_112 ++ [.inl (0, 30)]
theorem cg_113_51 : cs_113[51]? = some (.inr (9, [.inl 52, .inl 53, .inl 54, .inl 55, .inl 56, .inr 2])) := by decide +kernel
def cs_114 : List Sh := cs_113.set 51 (.inr (9, [.inl 52, .inl 53, .inl 54, .inl 55, .inl 56, .inl 57]))
theorem cg_114_36 : cs_114[36]? = some (.inl (8, 3)) := by decide +kernel
theorem cg_114_51 : cs_114[51]? = some (.inr (9, [.inl 52, .inl 53, .inl 54, .inl 55, .inl 56, .inl 57])) := by decide +kernel
def cs_115 : List Sh := cs_114.set 36 (.inl (5, 3))
theorem cg_115_0 : cs_115[0]? = some (.inr (11, [.inl 1, .inl 3, .inl 12, .inl 18, .inl 19, .inr 0, .inl 20, .inr 2, .inr 2, .inr 2, .inr 2, .inr 2, .inr 2, .inr 2, .inr 2, .inr 2, .inr 0])) := by decide +kernel
def cs_116 : List Sh := cs_115.set 0 (.inr (11, [.inl 1, .inl 3, .inl 12, .inl 18, .inl 19, .inr 0, .inl 20, .inl 36, .inr 2, .inr 2, .inr 2, .inr 2, .inr 2, .inr 2, .inr 2, .inr 2, .inr 0]))
theorem cl_116 : cs_116.length = 58 := by decide +kernel
def cs_117 : List Sh := cs_116 ++ [.inr (3, [.inr 0, .inr 0, .inr 2])]
theorem cl_117 : cs_117.length = 59 := by decide +kernel
def cs_118 : List Sh := cs_117 ++ [.inl (0, 640)]
theorem cg_118_58 : cs_118[58]? = some (.inr (3, [.inr 0, .inr 0, .inr 2])) := by decide +kernel
def cs_119 : List Sh := cs_118.set 58 (.inr (3, [.inr 0, .inr 0, .inl 59]))
theorem cg_119_0 : cs_119[0]? = some (.inr (11, [.inl 1, .inl 3, .inl 12, .inl 18, .inl 19, .inr 0, .inl 20, .inl 36, .inr 2, .inr 2, .inr 2, .inr 2, .inr 2, .inr 2, .inr 2, .inr 2, .inr 0])) := by decide +kernel
def cs_120 : List Sh := cs_119.set 0 (.inr (11, [.inl 1, .inl 3, .inl 12, .inl 18, .inl 19, .inr 0, .inl 20, .inl 36, .inl 58, .inr 2, .inr 2, .inr 2, .inr 2, .inr 2, .inr 2, .inr 2, .inr 0]))
theorem cl_120 : cs_120.length = 60 := by decide +kernel
def cs_121 : List Sh := cs_120 ++ [.inr (0, [.inr 0, .inr 0, .inr 2, .inr 2])]
theorem cl_121 : cs_121.length = 61 := by decide +kernel
def cs_122 : List Sh := cs_121 ++ [.inl (0, 4)]
theorem cg_122_60 : cs_122[60]? = some (.inr (0, [.inr 0, .inr 0, .inr 2, .inr 2])) := by decide +kernel
def cs_123 : List Sh := cs_122.set 60 (.inr (0, [.inr 0, .inr 0, .inl 61, .inr 2]))
theorem cl_123 : cs_123.length = 62 := by decide +kernel
def cs_124 : List Sh := cs_123 ++ [.inl (0, 120)]
theorem cg_124_60 : cs_124[60]? = some (.inr (0, [.inr 0, .inr 0, .inl 61, .inr 2])) := by decide +kernel
def cs_125 : List Sh := cs_124.set 60 (.inr (0, [.inr 0, .inr 0, .inl 61, .inl 62]))
theorem cg_125_0 : cs_125[0]? = some (.inr (11, [.inl 1, .inl 3, .inl 12, .inl 18, .inl 19, .inr 0, .inl 20, .inl 36, .inl 58, .inr 2, .inr 2, .inr 2, .inr 2, .inr 2, .inr 2, .inr 2, .inr 0])) := by decide +kernel
def cs_126 : List Sh := cs_125.set 0 (.inr (11, [.inl 1, .inl 3, .inl 12, .inl 18, .inl 19, .inr 0, .inl 20, .inl 36, .inl 58, .inl 60, .inr 2, .inr 2, .inr 2, .inr 2, .inr 2, .inr 2, .inr 0]))
theorem cl_126 : cs_126.length = 63 := by decide +kernel
def cs_127 : List Sh := cs_126 ++ [.inr (8, [.inr 0, .inr 2, .inr 2])]
theorem cl_127 : cs_127.length = 64 := by decide +kernel
def cs_128 : List Sh := cs_127 ++ [.inl (0, 12)]
theorem cg_128_63 : cs_128[63]? = some (.inr (8, [.inr 0, .inr 2, .inr 2])) := by decide +kernel
def cs_129 : List Sh := cs_128.set 63 (.inr (8, [.inr 0, .inl 64, .inr 2]))
theorem cl_129 : cs_129.length = 65 := by decide +kernel
def cs_130 : List Sh := cs_129 ++ [.inl (0, 12)]
theorem cg_130_63 : cs_130[63]? = some (.inr (8, [.inr 0, .inl 64, .inr 2])) := by decide +kernel
def cs_131 : List Sh := cs_130.set 63 (.inr (8, [.inr 0, .inl 64, .inl 65]))
theorem cg_131_0 : cs_131[0]? = some (.inr (11, [.inl 1, .inl 3, .inl 12, .inl 18, .inl 19, .inr 0, .inl 20, .inl 36, .inl 58, .inl 60, .inr 2, .inr 2, .inr 2, .inr 2, .inr 2, .inr 2, .inr 0])) := by decide +kernel
def cs_132 : List Sh := cs_131.set 0 (.inr (11, [.inl 1, .inl 3, .inl 12, .inl 18, .inl 19, .inr 0, .inl 20, .inl 36, .inl 58, .inl 60, .inl 63, .inr 2, .inr 2, .inr 2, .inr 2, .inr 2, .inr 0]))
theorem cl_132 : cs_132.length = 66 := by decide +kernel
def cs_133 : List Sh := cs_132 ++ [.inr (4, [.inr 0, .inr 2])]
theorem cl_133 : cs_133.length = 67 := by decide +kernel
def cs_134 : List Sh := cs_133 ++ [.inl (0, 153)]
theorem cg_134_66 : cs_134[66]? = some (.inr (4, [.inr 0, .inr 2])) := by decide +kernel
def cs_135 : List Sh := cs_134.set 66 (.inr (4, [.inr 0, .inl 67]))
theorem cg_135_0 : cs_135[0]? = some (.inr (11, [.inl 1, .inl 3, .inl 12, .inl 18, .inl 19, .inr 0, .inl 20, .inl 36, .inl 58, .inl 60, .inl 63, .inr 2, .inr 2, .inr 2, .inr 2, .inr 2, .inr 0])) := by decide +kernel
def cs_136 : List Sh := cs_135.set 0 (.inr (11, [.inl 1, .inl 3, .inl 12, .inl 18, .inl 19, .inr 0, .inl 20, .inl 36, .inl 58, .inl 60, .inl 63, .inl 66, .inr 2, .inr 2, .inr 2, .inr 2, .inr 0]))
theorem cl_136 : cs_136.length = 68 := by decide +kernel
def cs_137 : List Sh := cs_136 ++ [.inr (7, [.inr 2, .inr 2, .inr 2, .inr 0])]
theorem cl_137 : cs_137.length = 69 := by decide +kernel
def cs_138 : List Sh := cs_137 ++ [.inl (0, 20)]
theorem cg_138_68 : cs_138[68]? = some (.inr (7, [.inr 2, .inr 2, .inr 2, .inr 0])) := by decide +kernel
def cs_139 : List Sh := cs_138.set 68 (.inr (7, [.inl 69, .inr 2, .inr 2, .inr 0]))
theorem cl_139 : cs_139.length = 70 := by decide +kernel
def cs_140 : List Sh := cs_139 ++ [.inl (0, 30)]
theorem cg_140_68 : cs_140[68]? = some (.inr (7, [.inl 69, .inr 2, .inr 2, .inr 0])) := by decide +kernel
def cs_141 : List Sh := cs_140.set 68 (.inr (7, [.inl 69, .inl 70, .inr 2, .inr 0]))
theorem cl_141 : cs_141.length = 71 := by decide +kernel
def cs_142 : List Sh := cs_141 ++ [.inl (0, 20)]
theorem cg_142_68 : cs_142[68]? = some (.inr (7, [.inl 69, .inl 70, .inr 2, .inr 0])) := by decide +kernel
def cs_143 : List Sh := cs_142.set 68 (.inr (7, [.inl 69, .inl 70, .inl 71, .inr 0]))
theorem cg_143_0 : cs_143[0]? = some (.inr (11, [.inl 1, .inl 3, .inl 12, .inl 18, .inl 19, .inr 0, .inl 20, .inl 36, .inl 58, .inl 60, .inl 63, .inl 66, .inr 2, .inr 2, .inr 2, .inr 2, .inr 0])) := by decide +kernel
def cs_144 : List Sh := cs_143.set 0 (.inr (11, [.inl 1, .inl 3, .inl 12, .inl 18, .inl 19, .inr 0, .inl 20, .inl 36, .inl 58, .inl 60, .inl 63, .inl 66, .inl 68, .inr 2, .inr 2, .inr 2, .inr 0]))
theorem cl_144 : cs_144.length = 72 := by decide +kernel
def cs_145 : List Sh := cs_144 ++ [.inr (5, [.inr 0, .inr 0, .inr 2, .inr 2, .inr 2, .inr 2, .inr 2])]
theorem cl_145 : cs_145.length = 73 := by decide +kernel
def cs_146 : List Sh := cs_145 ++ [.inl (0, 30)]
theorem cg_146_72 : cs_146[72]? = some (.inr (5, [.inr 0, .inr 0, .inr 2, .inr 2, .inr 2, .inr 2, .inr 2])) := by decide +kernel
def cs_147 : List Sh := cs_146.set 72 (.inr (5, [.inr 0, .inr 0, .inl 73, .inr 2, .inr 2, .inr 2, .inr 2]))
theorem cl_147 : cs_147.length = 74 := by decide +kernel
def cs_148 : List Sh := cs_147 ++ [.inl (0, 30)]
theorem cg_148_72 : cs_148[72]? = some (.inr (5, [.inr 0, .inr 0, .inl 73, .inr 2, .inr 2, .inr 2, .inr 2])) := by decide +kernel
def cs_149 : List Sh := cs_148.set 72 (.inr (5, [.inr 0, .inr 0, .inl 73, .inl 74, .inr 2, .inr 2, .inr 2]))
theorem cl_149 : cs_149.length = 75 := by decide +kernel
def cs_150 : List Sh := cs_149 ++ [.inl (0, 30)]
theorem cg_150_72 : cs_150[72]? = some (.inr (5, [.inr 0, .inr 0, .inl 73, .inl 74, .inr 2, .inr 2, .inr 2])) := by decide +kernel
def cs_151 : List Sh := cs_150.set 72 (.inr (5, [.inr 0, .inr 0, .inl 73, .inl 74, .inl 75, .inr 2, .inr 2]))
theorem cl_151 : cs_151.length = 76 := by decide +kernel
def cs_152 : List Sh := cs_151 ++ [.inl (0, 30)]
theorem cg_152_72 : cs_152[72]? = some (.inr (5, [.inr 0, .inr 0, .inl 73, .inl 74, .inl 75, .inr 2, .inr 2])) := by decide +kernel
def cs_153 : List Sh := cs_152.set 72 (.inr (5, [.inr 0, .inr 0, .inl 73, .inl 74, .inl 75, .inl 76, .inr 2]))
theorem cl_153 : cs_153.length = 77 := by decide +kernel
def cs_154 : List Sh := cs_153 ++ [.inl (0, 30)]
theorem cg_154_72 : cs_154[72]? = some (.inr (5, [.inr 0, .inr 0, .inl 73, .inl 74, .inl 75, .inl 76, .inr 2])) := by decide +kernel
def cs_155 : List Sh := cs_154.set 72 (.inr (5, [.inr 0, .inr 0, .inl 73, .inl 74, .inl 75, .inl 76, .inl 77]))
theorem cg_155_0 : cs_155[0]? = some (.inr (11, [.inl 1, .inl 3, .inl 12, .inl 18, .inl 19, .inr 0, .inl 20, .inl 36, .inl 58, .inl 60, .inl 63, .inl 66, .inl 68, .inr 2, .inr 2, .inr 2, .inr 0])) := by decide +kernel
def cs_156 : List Sh := cs_155.set 0 (.inr (11, [.inl 1, .inl 3, .inl 12, .inl 18, .inl 19, .inr 0, .inl 20, .inl 36, .inl 58, .inl 60, .inl 63, .inl 66, .inl 68, .inl 72, .inr 2, .inr 2, .inr 0]))
theorem cl_156 : cs_156.length = 78 := by decide +kernel
def cs_157 : List Sh := cs_156 ++ [.inr (1, [.inr 2, .inr 2, .inr 2, .inr 2, .inr 2, .inr 2, .inr 2, .inr 2, .inr 2, .inr 2, .inr 2, .inr 0, .inr 0])]
theorem cl_157 : cs_157.length = 79 := by decide +kernel
def cs_158 : List Sh := cs_157 ++ [.inl (0, 20)]
theorem cg_158_78 : cs_158[78]? = some (.inr (1, [.inr 2, .inr 2, .inr 2, .inr 2, .inr 2, .inr 2, .inr 2, .inr 2, .inr 2, .inr 2, .inr 2, .inr 0, .inr 0])) := by decide +kernel
def cs_159 : List Sh := cs_158.set 78 (.inr (1, [.inl 79, .inr 2, .inr 2, .inr 2, .inr 2, .inr 2, .inr 2, .inr 2, .inr 2, .inr 2, .inr 2, .inr 0, .inr 0]))
theorem cl_159 : cs_159.length = 80 := by decide +kernel
def cs_160 : List Sh := cs_159 ++ [.inl (0, 30)]
theorem cg_160_78 : cs_160[78]? = some (.inr (1, [.inl 79, .inr 2, .inr 2, .inr 2, .inr 2, .inr 2, .inr 2, .inr 2, .inr 2, .inr 2, .inr 2, .inr 0, .inr 0])) := by decide +kernel
def cs_161 : List Sh := cs_160.set 78 (.inr (1, [.inl 79, .inl 80, .inr 2, .inr 2, .inr 2, .inr 2, .inr 2, .inr 2, .inr 2, .inr 2, .inr 2, .inr 0, .inr 0]))
theorem cl_161 : cs_161.length = 81 := by decide +kernel
def cs_162 : List Sh := cs_161 ++ [.inl (0, 20)]
theorem cg_162_78 : cs_162[78]? = some (.inr (1, [.inl 79, .inl 80, .inr 2, .inr 2, .inr 2, .inr 2, .inr 2, .inr 2, .inr 2, .inr 2, .inr 2, .inr 0, .inr 0])) := by decide +kernel
def cs_163 : List Sh := cs_162.set 78 (.inr (1, [.inl 79, .inl 80, .inl 81, .inr 2, .inr 2, .inr 2, .inr 2, .inr 2, .inr 2, .inr 2, .inr 2, .inr 0, .inr 0]))
theorem cl_163 : cs_163.length = 82 := by decide +kernel
def cs_164 : List Sh := cs_163 ++ [.inl (0, 20)]
theorem cg_164_78 : cs_164[78]? = some (.inr (1, [.inl 79, .inl 80, .inl 81, .inr 2, .inr 2, .inr 2, .inr 2, .inr 2, .inr 2, .inr 2, .inr 2, .inr 0, .inr 0])) := by decide +kernel
def cs_165 : List Sh := cs_164.set 78 (.inr (1, [.inl 79, .inl 80, .inl 81, .inl 82, .inr 2, .inr 2, .inr 2, .inr 2, .inr 2, .inr 2, .inr 2, .inr 0, .inr 0]))
theorem cl_165 : cs_165.length = 83 := by decide +kernel
def cs_166 : List Sh := cs_165 ++ [.inl (0, 20)]
theorem cg_166_78 : cs_166[78]? = some (.inr (1, [.inl 79, .inl 80, .inl 81, .inl 82, .inr 2, .inr 2, .inr 2, .inr 2, .inr 2, .inr 2, .inr 2, .inr 0, .inr 0])) := by decide +kernel
def cs_167 : List Sh := cs_166.set 78 (.inr (1, [.inl 79, .inl 80, .inl 81, .inl 82, .inl 83, .inr 2, .inr 2, .inr 2, .inr 2, .inr 2, .inr 2, .inr 0, .inr 0]))
theorem cl_167 : cs_167.length = 84 := by decide +kernel
def cs_168 : List Sh := cs_167 ++ [.inl (0, 20)]
theorem cg_168_78 : cs_168[78]? = some (.inr (1, [.inl 79, .inl 80, .inl 81, .inl 82, .inl 83, .inr 2, .inr 2, .inr 2, .inr 2, .inr 2, .inr 2, .inr 0, .inr 0])) := by decide +kernel
def cs_169 : List Sh := cs_168.set 78 (.inr (1, [.inl 79, .inl 80, .inl 81, .inl 82, .inl 83, .inl 84, .inr 2, .inr 2, .inr 2, .inr 2, .inr 2, .inr 0, .inr 0]))
theorem cl_169 : cs_169.length = 85 := by decide +kernel
def cs_170 : List Sh := cs_169 ++ [.inl (0, 20)]
theorem cg_170_78 : cs_170[78]? = some (.inr (1, [.inl 79, .inl 80, .inl 81, .inl 82, .inl 83, .inl 84, .inr 2, .inr 2, .inr 2, .inr 2, .inr 2, .inr 0, .inr 0])) := by decide +kernel
def cs_171 : List Sh := cs_170.set 78 (.inr (1, [.inl 79, .inl 80, .inl 81, .inl 82, .inl 83, .inl 84, .inl 85, .inr 2, .inr 2, .inr 2, .inr 2, .inr 0, .inr 0]))
theorem cl_171 : cs_171.length = 86 := by decide +kernel
def cs_172 : List Sh := cs_171 ++ [.inl (0, 20)]
theorem cg_172_78 : cs_172[78]? = some (.inr (1, [.inl 79, .inl 80, .inl 81, .inl 82, .inl 83, .inl 84, .inl 85, .inr 2, .inr 2, .inr 2, .inr 2, .inr 0, .inr 0])) := by decide +kernel
def cs_173 : List Sh := cs_172.set 78 (.inr (1, [.inl 79, .inl 80, .inl 81, .inl 82, .inl 83, .inl 84, .inl 85, .inl 86, .inr 2, .inr 2, .inr 2, .inr 0, .inr 0]))
theorem cl_173 : cs_173.length = 87 := by decide +kernel
def cs_174 : List Sh := cs_173 ++ [.inl (0, 30)]
theorem cg_174_78 : cs_174[78]? = some (.inr (1, [.inl 79, .inl 80, .inl 81, .inl 82, .inl 83, .inl 84, .inl 85, .inl 86, .inr 2, .inr 2, .inr 2, .inr 0, .inr 0])) := by decide +kernel
def cs_175 : List Sh := cs_174.set 78 (.inr (1, [.inl 79, .inl 80, .inl 81, .inl 82, .inl 83, .inl 84, .inl 85, .inl 86, .inl 87, .inr 2, .inr 2, .inr 0, .inr 0]))
theorem cl_175 : cs_175.length = 88 := by decide +kernel
def cs_176 : List Sh := cs_175 ++ [.inl (0, 30)]
theorem cg_176_78 : cs_176[78]? = some (.inr (1, [.inl 79, .inl 80, .inl 81, .inl 82, .inl 83, .inl 84, .inl 85, .inl 86, .inl 87, .inr 2, .inr 2, .inr 0, .inr 0])) := by decide +kernel
def cs_177 : List Sh := cs_176.set 78 (.inr (1, [.inl 79, .inl 80, .inl 81, .inl 82, .inl 83, .inl 84, .inl 85, .inl 86, .inl 87, .inl 88, .inr 2, .inr 0, .inr 0]))
theorem cl_177 : cs_177.length = 89 := by decide +kernel
def cs_178 : List Sh := cs_177 ++ [.inr (2, [.inr 2, .inr 2, .inr 2, .inr 2])]
theorem cl_178 : cs_178.length = 90 := by decide +kernel
def cs_179 : List Sh := cs_178 ++ [.inl (0, 30)]
theorem cg_179_89 : cs_179[89]? = some (.inr (2, [.inr 2, .inr 2, .inr 2, .inr 2])) := by decide +kernel
def cs_180 : List Sh := cs_179.set 89 (.inr (2, [.inl 90, .inr 2, .inr 2, .inr 2]))
theorem cl_180 : cs_180.length = 91 := by decide +kernel
def cs_181 : List Sh := cs_180 ++ [.inl (0, 20)]
theorem cg_181_89 : cs_181[89]? = some (.inr (2, [.inl 90, .inr 2, .inr 2, .inr 2])) := by decide +kernel
def cs_182 : List Sh := cs_181.set 89 (.inr (2, [.inl 90, .inl 91, .inr 2, .inr 2]))
theorem cl_182 : cs_182.length = 92 := by decide +kernel
def cs_183 : List Sh := cs_182 ++ [.inl (0, 20)]
theorem cg_183_89 : cs_183[89]? = some (.inr (2, [.inl 90, .inl 91, .inr 2, .inr 2])) := by decide +kernel
def cs_184 : List Sh := cs_183.set 89 (.inr (2, [.inl 90, .inl 91, .inl 92, .inr 2]))
theorem cl_184 : cs_184.length = 93 := by decide +kernel
def cs_185 : List Sh := cs_184 ++ [.inl (0, 20)]
theorem cg_185_89 : cs_185[89]? = some (.inr (2, [.inl 90, .inl 91, .inl 92, .inr 2])) := by decide +kernel
def cs_186 : List Sh := cs_185.set 89 (.inr (2, [.inl 90, .inl 91, .inl 92, .inl 93]))
theorem cg_186_78 : cs_186[78]? = some (.inr (1, [.inl 79, .inl 80, .inl 81, .inl 82, .inl 83, .inl 84, .inl 85, .inl 86, .inl 87, .inl 88, .inr 2, .inr 0, .inr 0])) := by decide +kernel
def cs_187 : List Sh := cs_186.set 78 (.inr (1, [.inl 79, .inl 80, .inl 81, .inl 82, .inl 83, .inl 84, .inl 85, .inl 86, .inl 87, .inl 88, .inl 89, .inr 0, .inr 0]))
theorem cg_187_0 : cs_187[0]? = some (.inr (11, [.inl 1, .inl 3, .inl 12, .inl 18, .inl 19, .inr 0, .inl 20, .inl 36, .inl 58, .inl 60, .inl 63, .inl 66, .inl 68, .inl 72, .inr 2, .inr 2, .inr 0])) := by decide +kernel
def cs_188 : List Sh := cs_187.set 0 (.inr (11, [.inl 1, .inl 3, .inl 12, .inl 18, .inl 19, .inr 0, .inl 20, .inl 36, .inl 58, .inl 60, .inl 63, .inl 66, .inl 68, .inl 72, .inl 78, .inr 2, .inr 0]))
theorem cl_188 : cs_188.length = 94 := by decide +kernel
def cs_189 : List Sh := cs_188 ++ [.inl (0, 6)]
theorem cg_189_0 : cs_189[0]? = some (.inr (11, [.inl 1, .inl 3, .inl 12, .inl 18, .inl 19, .inr 0, .inl 20, .inl 36, .inl 58, .inl 60, .inl 63, .inl 66, .inl 68, .inl 72, .inl 78, .inr 2, .inr 0])) := by decide +kernel
def cs_190 : List Sh := cs_189.set 0 (.inr (11, [.inl 1, .inl 3, .inl 12, .inl 18, .inl 19, .inr 0, .inl 20, .inl 36, .inl 58, .inl 60, .inl 63, .inl 66, .inl 68, .inl 72, .inl 78, .inl 94, .inr 0]))
theorem cg_190_0 : cs_190[0]? = some (.inr (11, [.inl 1, .inl 3, .inl 12, .inl 18, .inl 19, .inr 0, .inl 20, .inl 36, .inl 58, .inl 60, .inl 63, .inl 66, .inl 68, .inl 72, .inl 78, .inl 94, .inr 0])) := by decide +kernel
def cm_2 : Mem := st cm_1 0 16 (1)
theorem cl_190 : cs_190.length = 95 := by decide +kernel
def cs_191 : List Sh := cs_190 ++ [.inr (12, [.inr 2, .inr 0, .inr 0, .inr 0, .inr 0, .inr 0, .inr 0, .inr 0, .inr 0, .inr 2, .inr 2, .inr 0, .inr 2, .inr 2, .inr 0, .inr 0, .inr 2, .inr 2, .inr 2, .inr 2, .inr 2, .inr 2, .inr 2, .inr 2, .inr 2, .inr 2, .inr 2, .inr 2, .inr 2, .inr 2, .inr 2, .inr 2, .inr 2, .inr 2, .inr 2, .inr 2, .inr 2, .inr 2, .inr 0, .inr 2, .inr 2, .inr 0, .inr 0, .inr 0, .inr 0, .inr 2, .inr 1, .inr 2, .inr 0])]
theorem cl_191 : cs_191.length = 96 := by decide +kernel
def cs_192 : List Sh := cs_191 ++ [.inl (0, 1600)]
theorem cg_192_95 : cs_192[95]? = some (.inr (12, [.inr 2, .inr 0, .inr 0, .inr 0, .inr 0, .inr 0, .inr 0, .inr 0, .inr 0, .inr 2, .inr 2, .inr 0, .inr 2, .inr 2, .inr 0, .inr 0, .inr 2, .inr 2, .inr 2, .inr 2, .inr 2, .inr 2, .inr 2, .inr 2, .inr 2, .inr 2, .inr 2, .inr 2, .inr 2, .inr 2, .inr 2, .inr 2, .inr 2, .inr 2, .inr 2, .inr 2, .inr 2, .inr 2, .inr 0, .inr 2, .inr 2, .inr 0, .inr 0, .inr 0, .inr 0, .inr 2, .inr 1, .inr 2, .inr 0])) := by decide +kernel
def cs_193 : List Sh := cs_192.set 95 (.inr (12, [.inl 96, .inr 0, .inr 0, .inr 0, .inr 0, .inr 0, .inr 0, .inr 0, .inr 0, .inr 2, .inr 2, .inr 0, .inr 2, .inr 2, .inr 0, .inr 0, .inr 2, .inr 2, .inr 2, .inr 2, .inr 2, .inr 2, .inr 2, .inr 2, .inr 2, .inr 2, .inr 2, .inr 2, .inr 2, .inr 2, .inr 2, .inr 2, .inr 2, .inr 2, .inr 2, .inr 2, .inr 2, .inr 2, .inr 0, .inr 2, .inr 2, .inr 0, .inr 0, .inr 0, .inr 0, .inr 2, .inr 1, .inr 2, .inr 0]))
theorem cg_193_95 : cs_193[95]? = some (.inr (12, [.inl 96, .inr 0, .inr 0, .inr 0, .inr 0, .inr 0, .inr 0, .inr 0, .inr 0, .inr 2, .inr 2, .inr 0, .inr 2, .inr 2, .inr 0, .inr 0, .inr 2, .inr 2, .inr 2, .inr 2, .inr 2, .inr 2, .inr 2, .inr 2, .inr 2, .inr 2, .inr 2, .inr 2, .inr 2, .inr 2, .inr 2, .inr 2, .inr 2, .inr 2, .inr 2, .inr 2, .inr 2, .inr 2, .inr 0, .inr 2, .inr 2, .inr 0, .inr 0, .inr 0, .inr 0, .inr 2, .inr 1, .inr 2, .inr 0])) := by decide +kernel
def cm_3 : Mem := st cm_2 95 8 (-1)
theorem cl_193 : cs_193.length = 97 := by decide +kernel
def cs_194 : List Sh := cs_193 ++ [.inl (0, 6)]
theorem cg_194_95 : cs_194[95]? = some (.inr (12, [.inl 96, .inr 0, .inr 0, .inr 0, .inr 0, .inr 0, .inr 0, .inr 0, .inr 0, .inr 2, .inr 2, .inr 0, .inr 2, .inr 2, .inr 0, .inr 0, .inr 2, .inr 2, .inr 2, .inr 2, .inr 2, .inr 2, .inr 2, .inr 2, .inr 2, .inr 2, .inr 2, .inr 2, .inr 2, .inr 2, .inr 2, .inr 2, .inr 2, .inr 2, .inr 2, .inr 2, .inr 2, .inr 2, .inr 0, .inr 2, .inr 2, .inr 0, .inr 0, .inr 0, .inr 0, .inr 2, .inr 1, .inr 2, .inr 0])) := by decide +kernel
def cs_195 : List Sh := cs_194.set 95 (.inr (12, [.inl 96, .inr 0, .inr 0, .inr 0, .inr 0, .inr 0, .inr 0, .inr 0, .inr 0, .inl 97, .inr 2, .inr 0, .inr 2, .inr 2, .inr 0, .inr 0, .inr 2, .inr 2, .inr 2, .inr 2, .inr 2, .inr 2, .inr 2, .inr 2, .inr 2, .inr 2, .inr 2, .inr 2, .inr 2, .inr 2, .inr 2, .inr 2, .inr 2, .inr 2, .inr 2, .inr 2, .inr 2, .inr 2, .inr 0, .inr 2, .inr 2, .inr 0, .inr 0, .inr 0, .inr 0, .inr 2, .inr 1, .inr 2, .inr 0]))
theorem cl_195 : cs_195.length = 98 := by decide +kernel
def cs_196 : List Sh := cs_195 ++ [.inl (2, 35)]
theorem cg_196_98 : cs_196[98]? = some (.inl (2, 35)) := by decide +kernel
def cm_4 : Mem := st cm_3 98 0 112
def cm_5 : Mem := st cm_4 98 1 108
def cm_6 : Mem := st cm_5 98 2 97
def cm_7 : Mem := st cm_6 98 3 99
def cm_8 : Mem := st cm_7 98 4 101
def cm_9 : Mem := st cm_8 98 5 115
def cm_10 : Mem := st cm_9 98 6 32
def cm_11 : Mem := st cm_10 98 7 114
def cm_12 : Mem := st cm_11 98 8 101
def cm_13 : Mem := st cm_12 98 9 97
def cm_14 : Mem := st cm_13 98 10 99
def cm_15 : Mem := st cm_14 98 11 104
def cm_16 : Mem := st cm_15 98 12 32
def cm_17 : Mem := st cm_16 98 13 116
def cm_18 : Mem := st cm_17 98 14 111
def cm_19 : Mem := st cm_18 98 15 32
def cm_20 : Mem := st cm_19 98 16 108
def cm_21 : Mem := st cm_20 98 17 111
def cm_22 : Mem := st cm_21 98 18 110
def cm_23 : Mem := st cm_22 98 19 103
def cm_24 : Mem := st cm_23 98 20 32
def cm_25 : Mem := st cm_24 98 21 121
def cm_26 : Mem := st cm_25 98 22 105
def cm_27 : Mem := st cm_26 98 23 101
def cm_28 : Mem := st cm_27 98 24 108
def cm_29 : Mem := st cm_28 98 25 100
def cm_30 : Mem := st cm_29 98 26 115
def cm_31 : Mem := st cm_30 98 27 32
def cm_32 : Mem := st cm_31 98 28 99
def cm_33 : Mem := st cm_32 98 29 97
def cm_34 : Mem := st cm_33 98 30 108
def cm_35 : Mem := st cm_34 98 31 108
def cm_36 : Mem := st cm_35 98 32 101
def cm_37 : Mem := st cm_36 98 33 100
def cm_38 : Mem := st cm_37 98 34 32
theorem cg_196_95 : cs_196[95]? = some (.inr (12, [.inl 96, .inr 0, .inr 0, .inr 0, .inr 0, .inr 0, .inr 0, .inr 0, .inr 0, .inl 97, .inr 2, .inr 0, .inr 2, .inr 2, .inr 0, .inr 0, .inr 2, .inr 2, .inr 2, .inr 2, .inr 2, .inr 2, .inr 2, .inr 2, .inr 2, .inr 2, .inr 2, .inr 2, .inr 2, .inr 2, .inr 2, .inr 2, .inr 2, .inr 2, .inr 2, .inr 2, .inr 2, .inr 2, .inr 0, .inr 2, .inr 2, .inr 0, .inr 0, .inr 0, .inr 0, .inr 2, .inr 1, .inr 2, .inr 0])) := by decide +kernel
def cs_197 : List Sh := cs_196.set 95 (.inr (12, [.inl 96, .inr 0, .inr 0, .inr 0, .inr 0, .inr 0, .inr 0, .inr 0, .inr 0, .inl 97, .inl 98, .inr 0, .inr 2, .inr 2, .inr 0, .inr 0, .inr 2, .inr 2, .inr 2, .inr 2, .inr 2, .inr 2, .inr 2, .inr 2, .inr 2, .inr 2, .inr 2, .inr 2, .inr 2, .inr 2, .inr 2, .inr 2, .inr 2, .inr 2, .inr 2, .inr 2, .inr 2, .inr 2, .inr 0, .inr 2, .inr 2, .inr 0, .inr 0, .inr 0, .inr 0, .inr 2, .inr 1, .inr 2, .inr 0]))
theorem cl_197 : cs_197.length = 99 := by decide +kernel
def cs_198 : List Sh := cs_197 ++ [.inl (0, 183)]
theorem cg_198_95 : cs_198[95]? = some (.inr (12, [.inl 96, .inr 0, .inr 0, .inr 0, .inr 0, .inr 0, .inr 0, .inr 0, .inr 0, .inl 97, .inl 98, .inr 0, .inr 2, .inr 2, .inr 0, .inr 0, .inr 2, .inr 2, .inr 2, .inr 2, .inr 2, .inr 2, .inr 2, .inr 2, .inr 2, .inr 2, .inr 2, .inr 2, .inr 2, .inr 2, .inr 2, .inr 2, .inr 2, .inr 2, .inr 2, .inr 2, .inr 2, .inr 2, .inr 0, .inr 2, .inr 2, .inr 0, .inr 0, .inr 0, .inr 0, .inr 2, .inr 1, .inr 2, .inr 0])) := by decide +kernel
def cs_199 : List Sh := cs_198.set 95 (.inr (12, [.inl 96, .inr 0, .inr 0, .inr 0, .inr 0, .inr 0, .inr 0, .inr 0, .inr 0, .inl 97, .inl 98, .inr 0, .inl 99, .inr 2, .inr 0, .inr 0, .inr 2, .inr 2, .inr 2, .inr 2, .inr 2, .inr 2, .inr 2, .inr 2, .inr 2, .inr 2, .inr 2, .inr 2, .inr 2, .inr 2, .inr 2, .inr 2, .inr 2, .inr 2, .inr 2, .inr 2, .inr 2, .inr 2, .inr 0, .inr 2, .inr 2, .inr 0, .inr 0, .inr 0, .inr 0, .inr 2, .inr 1, .inr 2, .inr 0]))
theorem cl_199 : cs_199.length = 100 := by decide +kernel
def cs_200 : List Sh := cs_199 ++ [.inl (0, 183)]
theorem cg_200_95 : cs_200[95]? = some (.inr (12, [.inl 96, .inr 0, .inr 0, .inr 0, .inr 0, .inr 0, .inr 0, .inr 0, .inr 0, .inl 97, .inl 98, .inr 0, .inl 99, .inr 2, .inr 0, .inr 0, .inr 2, .inr 2, .inr 2, .inr 2, .inr 2, .inr 2, .inr 2, .inr 2, .inr 2, .inr 2, .inr 2, .inr 2, .inr 2, .inr 2, .inr 2, .inr 2, .inr 2, .inr 2, .inr 2, .inr 2, .inr 2, .inr 2, .inr 0, .inr 2, .inr 2, .inr 0, .inr 0, .inr 0, .inr 0, .inr 2, .inr 1, .inr 2, .inr 0])) := by decide +kernel
def cs_201 : List Sh := cs_200.set 95 (.inr (12, [.inl 96, .inr 0, .inr 0, .inr 0, .inr 0, .inr 0, .inr 0, .inr 0, .inr 0, .inl 97, .inl 98, .inr 0, .inl 99, .inl 100, .inr 0, .inr 0, .inr 2, .inr 2, .inr 2, .inr 2, .inr 2, .inr 2, .inr 2, .inr 2, .inr 2, .inr 2, .inr 2, .inr 2, .inr 2, .inr 2, .inr 2, .inr 2, .inr 2, .inr 2, .inr 2, .inr 2, .inr 2, .inr 2, .inr 0, .inr 2, .inr 2, .inr 0, .inr 0, .inr 0, .inr 0, .inr 2, .inr 1, .inr 2, .inr 0]))
theorem cl_201 : cs_201.length = 101 := by decide +kernel
def cs_202 : List Sh := cs_201 ++ [.inl (0, 20)]
theorem cg_202_95 : cs_202[95]? = some (.inr (12, [.inl 96, .inr 0, .inr 0, .inr 0, .inr 0, .inr 0, .inr 0, .inr 0, .inr 0, .inl 97, .inl 98, .inr 0, .inl 99, .inl 100, .inr 0, .inr 0, .inr 2, .inr 2, .inr 2, .inr 2, .inr 2, .inr 2, .inr 2, .inr 2, .inr 2, .inr 2, .inr 2, .inr 2, .inr 2, .inr 2, .inr 2, .inr 2, .inr 2, .inr 2, .inr 2, .inr 2, .inr 2, .inr 2, .inr 0, .inr 2, .inr 2, .inr 0, .inr 0, .inr 0, .inr 0, .inr 2, .inr 1, .inr 2, .inr 0])) := by decide +kernel
def cs_203 : List Sh := cs_202.set 95 (.inr (12, [.inl 96, .inr 0, .inr 0, .inr 0, .inr 0, .inr 0, .inr 0, .inr 0, .inr 0, .inl 97, .inl 98, .inr 0, .inl 99, .inl 100, .inr 0, .inr 0, .inl 101, .inr 2, .inr 2, .inr 2, .inr 2, .inr 2, .inr 2, .inr 2, .inr 2, .inr 2, .inr 2, .inr 2, .inr 2, .inr 2, .inr 2, .inr 2, .inr 2, .inr 2, .inr 2, .inr 2, .inr 2, .inr 2, .inr 0, .inr 2, .inr 2, .inr 0, .inr 0, .inr 0, .inr 0, .inr 2, .inr 1, .inr 2, .inr 0]))
theorem cl_203 : cs_203.length = 102 := by decide +kernel
def cs_204 : List Sh := cs_203 ++ [.inl (0, 20)]
theorem cg_204_95 : cs_204[95]? = some (.inr (12, [.inl 96, .inr 0, .inr 0, .inr 0, .inr 0, .inr 0, .inr 0, .inr 0, .inr 0, .inl 97, .inl 98, .inr 0, .inl 99, .inl 100, .inr 0, .inr 0, .inl 101, .inr 2, .inr 2, .inr 2, .inr 2, .inr 2, .inr 2, .inr 2, .inr 2, .inr 2, .inr 2, .inr 2, .inr 2, .inr 2, .inr 2, .inr 2, .inr 2, .inr 2, .inr 2, .inr 2, .inr 2, .inr 2, .inr 0, .inr 2, .inr 2, .inr 0, .inr 0, .inr 0, .inr 0, .inr 2, .inr 1, .inr 2, .inr 0])) := by decide +kernel
def cs_205 : List Sh := cs_204.set 95 (.inr (12, [.inl 96, .inr 0, .inr 0, .inr 0, .inr 0, .inr 0, .inr 0, .inr 0, .inr 0, .inl 97, .inl 98, .inr 0, .inl 99, .inl 100, .inr 0, .inr 0, .inl 101, .inl 102, .inr 2, .inr 2, .inr 2, .inr 2, .inr 2, .inr 2, .inr 2, .inr 2, .inr 2, .inr 2, .inr 2, .inr 2, .inr 2, .inr 2, .inr 2, .inr 2, .inr 2, .inr 2, .inr 2, .inr 2, .inr 0, .inr 2, .inr 2, .inr 0, .inr 0, .inr 0, .inr 0, .inr 2, .inr 1, .inr 2, .inr 0]))
theorem cl_205 : cs_205.length = 103 := by decide +kernel
def cs_206 : List Sh := cs_205 ++ [.inl (0, 20)]
theorem cg_206_95 : cs_206[95]? = some (.inr (12, [.inl 96, .inr 0, .inr 0, .inr 0, .inr 0, .inr 0, .inr 0, .inr 0, .inr 0, .inl 97, .inl 98, .inr 0, .inl 99, .inl 100, .inr 0, .inr 0, .inl 101, .inl 102, .inr 2, .inr 2, .inr 2, .inr 2, .inr 2, .inr 2, .inr 2, .inr 2, .inr 2, .inr 2, .inr 2, .inr 2, .inr 2, .inr 2, .inr 2, .inr 2, .inr 2, .inr 2, .inr 2, .inr 2, .inr 0, .inr 2, .inr 2, .inr 0, .inr 0, .inr 0, .inr 0, .inr 2, .inr 1, .inr 2, .inr 0])) := by decide +kernel
def cs_207 : List Sh := cs_206.set 95 (.inr (12, [.inl 96, .inr 0, .inr 0, .inr 0, .inr 0, .inr 0, .inr 0, .inr 0, .inr 0, .inl 97, .inl 98, .inr 0, .inl 99, .inl 100, .inr 0, .inr 0, .inl 101, .inl 102, .inl 103, .inr 2, .inr 2, .inr 2, .inr 2, .inr 2, .inr 2, .inr 2, .inr 2, .inr 2, .inr 2, .inr 2, .inr 2, .inr 2, .inr 2, .inr 2, .inr 2, .inr 2, .inr 2, .inr 2, .inr 0, .inr 2, .inr 2, .inr 0, .inr 0, .inr 0, .inr 0, .inr 2, .inr 1, .inr 2, .inr 0]))
theorem cl_207 : cs_207.length = 104 := by decide +kernel
def cs_208 : List Sh := cs_207 ++ [.inl (0, 20)]
theorem cg_208_95 : cs_208[95]? = some (.inr (12, [.inl 96, .inr 0, .inr 0, .inr 0, .inr 0, .inr 0, .inr 0, .inr 0, .inr 0, .inl 97, .inl 98, .inr 0, .inl 99, .inl 100, .inr 0, .inr 0, .inl 101, .inl 102, .inl 103, .inr 2, .inr 2, .inr 2, .inr 2, .inr 2, .inr 2, .inr 2, .inr 2, .inr 2, .inr 2, .inr 2, .inr 2, .inr 2, .inr 2, .inr 2, .inr 2, .inr 2, .inr 2, .inr 2, .inr 0, .inr 2, .inr 2, .inr 0, .inr 0, .inr 0, .inr 0, .inr 2, .inr 1, .inr 2, .inr 0])) := by decide +kernel
def cs_209 : List Sh := cs_208.set 95 (.inr (12, [.inl 96, .inr 0, .inr 0, .inr 0, .inr 0, .inr 0, .inr 0, .inr 0, .inr 0, .inl 97, .inl 98, .inr 0, .inl 99, .inl 100, .inr 0, .inr 0, .inl 101, .inl 102, .inl 103, .inl 104, .inr 2, .inr 2, .inr 2, .inr 2, .inr 2, .inr 2, .inr 2, .inr 2, .inr 2, .inr 2, .inr 2, .inr 2, .inr 2, .inr 2, .inr 2, .inr 2, .inr 2, .inr 2, .inr 0, .inr 2, .inr 2, .inr 0, .inr 0, .inr 0, .inr 0, .inr 2, .inr 1, .inr 2, .inr 0]))
theorem cl_209 : cs_209.length = 105 := by decide +kernel
def cs_210 : List Sh := cs_209 ++ [.inl (0, 20)]
theorem cg_210_95 : cs_210[95]? = some (.inr (12, [.inl 96, .inr 0, .inr 0, .inr 0, .inr 0, .inr 0, .inr 0, .inr 0, .inr 0, .inl 97, .inl 98, .inr 0, .inl 99, .inl 100, .inr 0, .inr 0, .inl 101, .inl 102, .inl 103, .inl 104, .inr 2, .inr 2, .inr 2, .inr 2, .inr 2, .inr 2, .inr 2, .inr 2, .inr 2, .inr 2, .inr 2, .inr 2, .inr 2, .inr 2, .inr 2, .inr 2, .inr 2, .inr 2, .inr 0, .inr 2, .inr 2, .inr 0, .inr 0, .inr 0, .inr 0, .inr 2, .inr 1, .inr 2, .inr 0])) := by decide +kernel
def cs_211 : List Sh := cs_210.set 95 (.inr (12, [.inl 96, .inr 0, .inr 0, .inr 0, .inr 0, .inr 0, .inr 0, .inr 0, .inr 0, .inl 97, .inl 98, .inr 0, .inl 99, .inl 100, .inr 0, .inr 0, .inl 101, .inl 102, .inl 103, .inl 104, .inl 105, .inr 2, .inr 2, .inr 2, .inr 2, .inr 2, .inr 2, .inr 2, .inr 2, .inr 2, .inr 2, .inr 2, .inr 2, .inr 2, .inr 2, .inr 2, .inr 2, .inr 2, .inr 0, .inr 2, .inr 2, .inr 0, .inr 0, .inr 0, .inr 0, .inr 2, .inr 1, .inr 2, .inr 0]))
theorem cl_211 : cs_211.length = 106 := by decide +kernel
def cs_212 : List Sh := cs_211 ++ [.inl (0, 20)]
theorem cg_212_95 : cs_212[95]? = some (.inr (12, [.inl 96, .inr 0, .inr 0, .inr 0, .inr 0, .inr 0, .inr 0, .inr 0, .inr 0, .inl 97, .inl 98, .inr 0, .inl 99, .inl 100, .inr 0, .inr 0, .inl 101, .inl 102, .inl 103, .inl 104, .inl 105, .inr 2, .inr 2, .inr 2, .inr 2, .inr 2, .inr 2, .inr 2, .inr 2, .inr 2, .inr 2, .inr 2, .inr 2, .inr 2, .inr 2, .inr 2, .inr 2, .inr 2, .inr 0, .inr 2, .inr 2, .inr 0, .inr 0, .inr 0, .inr 0, .inr 2, .inr 1, .inr 2, .inr 0])) := by decide +kernel
def cs_213 : List Sh := cs_212.set 95 (.inr (12, [.inl 96, .inr 0, .inr 0, .inr 0, .inr 0, .inr 0, .inr 0, .inr 0, .inr 0, .inl 97, .inl 98, .inr 0, .inl 99, .inl 100, .inr 0, .inr 0, .inl 101, .inl 102, .inl 103, .inl 104, .inl 105, .inl 106, .inr 2, .inr 2, .inr 2, .inr 2, .inr 2, .inr 2, .inr 2, .inr 2, .inr 2, .inr 2, .inr 2, .inr 2, .inr 2, .inr 2, .inr 2, .inr 2, .inr 0, .inr 2, .inr 2, .inr 0, .inr 0, .inr 0, .inr 0, .inr 2, .inr 1, .inr 2, .inr 0]))
theorem cl_213 : cs_213.length = 107 := by decide +kernel
def cs_214 : List Sh := cs_213 ++ [.inl (0, 30)]
theorem cg_214_95 : cs_214[95]? = some (.inr (12, [.inl 96, .inr 0, .inr 0, .inr 0, .inr 0, .inr 0, .inr 0, .inr 0, .inr 0, .inl 97, .inl 98, .inr 0, .inl 99, .inl 100, .inr 0, .inr 0, .inl 101, .inl 102, .inl 103, .inl 104, .inl 105, .inl 106, .inr 2, .inr 2, .inr 2, .inr 2, .inr 2, .inr 2, .inr 2, .inr 2, .inr 2, .inr 2, .inr 2, .inr 2, .inr 2, .inr 2, .inr 2, .inr 2, .inr 0, .inr 2, .inr 2, .inr 0, .inr 0, .inr 0, .inr 0, .inr 2, .inr 1, .inr 2, .inr 0])) := by decide +kernel
def cs_215 : List Sh := cs_214.set 95 (.inr (12, [.inl 96, .inr 0, .inr 0, .inr 0, .inr 0, .inr 0, .inr 0, .inr 0, .inr 0, .inl 97, .inl 98, .inr 0, .inl 99, .inl 100, .inr 0, .inr 0, .inl 101, .inl 102, .inl 103, .inl 104, .inl 105, .inl 106, .inl 107, .inr 2, .inr 2, .inr 2, .inr 2, .inr 2, .inr 2, .inr 2, .inr 2, .inr 2, .inr 2, .inr 2, .inr 2, .inr 2, .inr 2, .inr 2, .inr 0, .inr 2, .inr 2, .inr 0, .inr 0, .inr 0, .inr 0, .inr 2, .inr 1, .inr 2, .inr 0]))
theorem cl_215 : cs_215.length = 108 := by decide +kernel
def cs_216 : List Sh := cs_215 ++ [.inl (0, 20)]
theorem cg_216_95 : cs_216[95]? = some (.inr (12, [.inl 96, .inr 0, .inr 0, .inr 0, .inr 0, .inr 0, .inr 0, .inr 0, .inr 0, .inl 97, .inl 98, .inr 0, .inl 99, .inl 100, .inr 0, .inr 0, .inl 101, .inl 102, .inl 103, .inl 104, .inl 105, .inl 106, .inl 107, .inr 2, .inr 2, .inr 2, .inr 2, .inr 2, .inr 2, .inr 2, .inr 2, .inr 2, .inr 2, .inr 2, .inr 2, .inr 2, .inr 2, .inr 2, .inr 0, .inr 2, .inr 2, .inr 0, .inr 0, .inr 0, .inr 0, .inr 2, .inr 1, .inr 2, .inr 0])) := by decide +kernel
def cs_217 : List Sh := cs_216.set 95 (.inr (12, [.inl 96, .inr 0, .inr 0, .inr 0, .inr 0, .inr 0, .inr 0, .inr 0, .inr 0, .inl 97, .inl 98, .inr 0, .inl 99, .inl 100, .inr 0, .inr 0, .inl 101, .inl 102, .inl 103, .inl 104, .inl 105, .inl 106, .inl 107, .inl 108, .inr 2, .inr 2, .inr 2, .inr 2, .inr 2, .inr 2, .inr 2, .inr 2, .inr 2, .inr 2, .inr 2, .inr 2, .inr 2, .inr 2, .inr 0, .inr 2, .inr 2, .inr 0, .inr 0, .inr 0, .inr 0, .inr 2, .inr 1, .inr 2, .inr 0]))
theorem cl_217 : cs_217.length = 109 := by decide +kernel
def cs_218 : List Sh := cs_217 ++ [.inl (0, 20)]
theorem cg_218_95 : cs_218[95]? = some (.inr (12, [.inl 96, .inr 0, .inr 0, .inr 0, .inr 0, .inr 0, .inr 0, .inr 0, .inr 0, .inl 97, .inl 98, .inr 0, .inl 99, .inl 100, .inr 0, .inr 0, .inl 101, .inl 102, .inl 103, .inl 104, .inl 105, .inl 106, .inl 107, .inl 108, .inr 2, .inr 2, .inr 2, .inr 2, .inr 2, .inr 2, .inr 2, .inr 2, .inr 2, .inr 2, .inr 2, .inr 2, .inr 2, .inr 2, .inr 0, .inr 2, .inr 2, .inr 0, .inr 0, .inr 0, .inr 0, .inr 2, .inr 1, .inr 2, .inr 0])) := by decide +kernel
def cs_219 : List Sh := cs_218.set 95 (.inr (12, [.inl 96, .inr 0, .inr 0, .inr 0, .inr 0, .inr 0, .inr 0, .inr 0, .inr 0, .inl 97, .inl 98, .inr 0, .inl 99, .inl 100, .inr 0, .inr 0, .inl 101, .inl 102, .inl 103, .inl 104, .inl 105, .inl 106, .inl 107, .inl 108, .inl 109, .inr 2, .inr 2, .inr 2, .inr 2, .inr 2, .inr 2, .inr 2, .inr 2, .inr 2, .inr 2, .inr 2, .inr 2, .inr 2, .inr 0, .inr 2, .inr 2, .inr 0, .inr 0, .inr 0, .inr 0, .inr 2, .inr 1, .inr 2, .inr 0]))
theorem cl_219 : cs_219.length = 110 := by decide +kernel
def cs_220 : List Sh := cs_219 ++ [.inl (0, 30)]
theorem cg_220_95 : cs_220[95]? = some (.inr (12, [.inl 96, .inr 0, .inr 0, .inr 0, .inr 0, .inr 0, .inr 0, .inr 0, .inr 0, .inl 97, .inl 98, .inr 0, .inl 99, .inl 100, .inr 0, .inr 0, .inl 101, .inl 102, .inl 103, .inl 104, .inl 105, .inl 106, .inl 107, .inl 108, .inl 109, .inr 2, .inr 2, .inr 2, .inr 2, .inr 2, .inr 2, .inr 2, .inr 2, .inr 2, .inr 2, .inr 2, .inr 2, .inr 2, .inr 0, .inr 2, .inr 2, .inr 0, .inr 0, .inr 0, .inr 0, .inr 2, .inr 1, .inr 2, .inr 0])) := by decide +kernel
def cs_221 : List Sh := cs_220.set 95 (.inr (12, [.inl 96, .inr 0, .inr 0, .inr 0, .inr 0, .inr 0, .inr 0, .inr 0, .inr 0, .inl 97, .inl 98, .inr 0, .inl 99, .inl 100, .inr 0, .inr 0, .inl 101, .inl 102, .inl 103, .inl 104, .inl 105, .inl 106, .inl 107, .inl 108, .inl 109, .inl 110, .inr 2, .inr 2, .inr 2, .inr 2, .inr 2, .inr 2, .inr 2, .inr 2, .inr 2, .inr 2, .inr 2, .inr 2, .inr 0, .inr 2, .inr 2, .inr 0, .inr 0, .inr 0, .inr 0, .inr 2, .inr 1, .inr 2, .inr 0]))
theorem cl_221 : cs_221.length = 111 := by decide +kernel
def cs_222 : List Sh := cs_221 ++ [.inl (0, 30)]
theorem cg_222_95 : cs_222[95]? = some (.inr (12, [.inl 96, .inr 0, .inr 0, .inr 0, .inr 0, .inr 0, .inr 0, .inr 0, .inr 0, .inl 97, .inl 98, .inr 0, .inl 99, .inl 100, .inr 0, .inr 0, .inl 101, .inl 102, .inl 103, .inl 104, .inl 105, .inl 106, .inl 107, .inl 108, .inl 109, .inl 110, .inr 2, .inr 2, .inr 2, .inr 2, .inr 2, .inr 2, .inr 2, .inr 2, .inr 2, .inr 2, .inr 2, .inr 2, .inr 0, .inr 2, .inr 2, .inr 0, .inr 0, .inr 0, .inr 0, .inr 2, .inr 1, .inr 2, .inr 0])) := by decide +kernel
def cs_223 : List Sh := cs_222.set 95 (.inr (12, [.inl 96, .inr 0, .inr 0, .inr 0, .inr 0, .inr 0, .inr 0, .inr 0, .inr 0, .inl 97, .inl 98, .inr 0, .inl 99, .inl 100, .inr 0, .inr 0, .inl 101, .inl 102, .inl 103, .inl 104, .inl 105, .inl 106, .inl 107, .inl 108, .inl 109, .inl 110, .inl 111, .inr 2, .inr 2, .inr 2, .inr 2, .inr 2, .inr 2, .inr 2, .inr 2, .inr 2, .inr 2, .inr 2, .inr 0, .inr 2, .inr 2, .inr 0, .inr 0, .inr 0, .inr 0, .inr 2, .inr 1, .inr 2, .inr 0]))
theorem cl_223 : cs_223.length = 112 := by decide +kernel
def cs_224 : List Sh := cs_223 ++ [.inl (0, 90)]
theorem cg_224_95 : cs_224[95]? = some (.inr (12, [.inl 96, .inr 0, .inr 0, .inr 0, .inr 0, .inr 0, .inr 0, .inr 0, .inr 0, .inl 97, .inl 98, .inr 0, .inl 99, .inl 100, .inr 0, .inr 0, .inl 101, .inl 102, .inl 103, .inl 104, .inl 105, .inl 106, .inl 107, .inl 108, .inl 109, .inl 110, .inl 111, .inr 2, .inr 2, .inr 2, .inr 2, .inr 2, .inr 2, .inr 2, .inr 2, .inr 2, .inr 2, .inr 2, .inr 0, .inr 2, .inr 2, .inr 0, .inr 0, .inr 0, .inr 0, .inr 2, .inr 1, .inr 2, .inr 0])) := by decide +kernel
def cs_225 : List Sh := cs_224.set 95 (.inr (12, [.inl 96, .inr 0, .inr 0, .inr 0, .inr 0, .inr 0, .inr 0, .inr 0, .inr 0, .inl 97, .inl 98, .inr 0, .inl 99, .inl 100, .inr 0, .inr 0, .inl 101, .inl 102, .inl 103, .inl 104, .inl 105, .inl 106, .inl 107, .inl 108, .inl 109, .inl 110, .inl 111, .inl 112, .inr 2, .inr 2, .inr 2, .inr 2, .inr 2, .inr 2, .inr 2, .inr 2, .inr 2, .inr 2, .inr 0, .inr 2, .inr 2, .inr 0, .inr 0, .inr 0, .inr 0, .inr 2, .inr 1, .inr 2, .inr 0]))
theorem cl_225 : cs_225.length = 113 := by decide +kernel
def cs_226 : List Sh := cs_225 ++ [.inl (0, 90)]
theorem cg_226_95 : cs_226[95]? = some (.inr (12, [.inl 96, .inr 0, .inr 0, .inr 0, .inr 0, .inr 0, .inr 0, .inr 0, .inr 0, .inl 97, .inl 98, .inr 0, .inl 99, .inl 100, .inr 0, .inr 0, .inl 101, .inl 102, .inl 103, .inl 104, .inl 105, .inl 106, .inl 107, .inl 108, .inl 109, .inl 110, .inl 111, .inl 112, .inr 2, .inr 2, .inr 2, .inr 2, .inr 2, .inr 2, .inr 2, .inr 2, .inr 2, .inr 2, .inr 0, .inr 2, .inr 2, .inr 0, .inr 0, .inr 0, .inr 0, .inr 2, .inr 1, .inr 2, .inr 0])) := by decide +kernel
def cs_227 : List Sh := cs_226.set 95 (.inr (12, [.inl 96, .inr 0, .inr 0, .inr 0, .inr 0, .inr 0, .inr 0, .inr 0, .inr 0, .inl 97, .inl 98, .inr 0, .inl 99, .inl 100, .inr 0, .inr 0, .inl 101, .inl 102, .inl 103, .inl 104, .inl 105, .inl 106, .inl 107, .inl 108, .inl 109, .inl 110, .inl 111, .inl 112, .inl 113, .inr 2, .inr 2, .inr 2, .inr 2, .inr 2, .inr 2, .inr 2, .inr 2, .inr 2, .inr 0, .inr 2, .inr 2, .inr 0, .inr 0, .inr 0, .inr 0, .inr 2, .inr 1, .inr 2, .inr 0]))
theorem cl_227 : cs_227.length = 114 := by decide +kernel
def cs_228 : List Sh := cs_227 ++ [.inl (0, 90)]
theorem cg_228_95 : cs_228[95]? = some (.inr (12, [.inl 96, .inr 0, .inr 0, .inr 0, .inr 0, .inr 0, .inr 0, .inr 0, .inr 0, .inl 97, .inl 98, .inr 0, .inl 99, .inl 100, .inr 0, .inr 0, .inl 101, .inl 102, .inl 103, .inl 104, .inl 105, .inl 106, .inl 107, .inl 108, .inl 109, .inl 110, .inl 111, .inl 112, .inl 113, .inr 2, .inr 2, .inr 2, .inr 2, .inr 2, .inr 2, .inr 2, .inr 2, .inr 2, .inr 0, .inr 2, .inr 2, .inr 0, .inr 0, .inr 0, .inr 0, .inr 2, .inr 1, .inr 2, .inr 0])) := by decide +kernel
def cs_229 : List Sh := cs_228.set 95 (.inr (12, [.inl 96, .inr 0, .inr 0, .inr 0, .inr 0, .inr 0, .inr 0, .inr 0, .inr 0, .inl 97, .inl 98, .inr 0, .inl 99, .inl 100, .inr 0, .inr 0, .inl 101, .inl 102, .inl 103, .inl 104, .inl 105, .inl 106, .inl 107, .inl 108, .inl 109, .inl 110, .inl 111, .inl 112, .inl 113, .inl 114, .inr 2, .inr 2, .inr 2, .inr 2, .inr 2, .inr 2, .inr 2, .inr 2, .inr 0, .inr 2, .inr 2, .inr 0, .inr 0, .inr 0, .inr 0, .inr 2, .inr 1, .inr 2, .inr 0]))
theorem cl_229 : cs_229.length = 115 := by decide +kernel
def cs_230 : List Sh := cs_229 ++ [.inl (0, 90)]
theorem cg_230_95 : cs_230[95]? = some (.inr (12, [.inl 96, .inr 0, .inr 0, .inr 0, .inr 0, .inr 0, .inr 0, .inr 0, .inr 0, .inl 97, .inl 98, .inr 0, .inl 99, .inl 100, .inr 0, .inr 0, .inl 101, .inl 102, .inl 103, .inl 104, .inl 105, .inl 106, .inl 107, .inl 108, .inl 109, .inl 110, .inl 111, .inl 112, .inl 113, .inl 114, .inr 2, .inr 2, .inr 2, .inr 2, .inr 2, .inr 2, .inr 2, .inr 2, .inr 0, .inr 2, .inr 2, .inr 0, .inr 0, .inr 0, .inr 0, .inr 2, .inr 1, .inr 2, .inr 0])) := by decide +kernel
def cs_231 : List Sh := cs_230.set 95 (.inr (12, [.inl 96, .inr 0, .inr 0, .inr 0, .inr 0, .inr 0, .inr 0, .inr 0, .inr 0, .inl 97, .inl 98, .inr 0, .inl 99, .inl 100, .inr 0, .inr 0, .inl 101, .inl 102, .inl 103, .inl 104, .inl 105, .inl 106, .inl 107, .inl 108, .inl 109, .inl 110, .inl 111, .inl 112, .inl 113, .inl 114, .inl 115, .inr 2, .inr 2, .inr 2, .inr 2, .inr 2, .inr 2, .inr 2, .inr 0, .inr 2, .inr 2, .inr 0, .inr 0, .inr 0, .inr 0, .inr 2, .inr 1, .inr 2, .inr 0]))
theorem cl_231 : cs_231.length = 116 := by decide +kernel
def cs_232 : List Sh := cs_231 ++ [.inl (4, 20)]
theorem cg_232_95 : cs_232[95]? = some (.inr (12, [.inl 96, .inr 0, .inr 0, .inr 0, .inr 0, .inr 0, .inr 0, .inr 0, .inr 0, .inl 97, .inl 98, .inr 0, .inl 99, .inl 100, .inr 0, .inr 0, .inl 101, .inl 102, .inl 103, .inl 104, .inl 105, .inl 106, .inl 107, .inl 108, .inl 109, .inl 110, .inl 111, .inl 112, .inl 113, .inl 114, .inl 115, .inr 2, .inr 2, .inr 2, .inr 2, .inr 2, .inr 2, .inr 2, .inr 0, .inr 2, .inr 2, .inr 0, .inr 0, .inr 0, .inr 0, .inr 2, .inr 1, .inr 2, .inr 0])) := by decide +kernel
def cs_233 : List Sh := cs_232.set 95 (.inr (12, [.inl 96, .inr 0, .inr 0, .inr 0, .inr 0, .inr 0, .inr 0, .inr 0, .inr 0, .inl 97, .inl 98, .inr 0, .inl 99, .inl 100, .inr 0, .inr 0, .inl 101, .inl 102, .inl 103, .inl 104, .inl 105, .inl 106, .inl 107, .inl 108, .inl 109, .inl 110, .inl 111, .inl 112, .inl 113, .inl 114, .inl 115, .inl 116, .inr 2, .inr 2, .inr 2, .inr 2, .inr 2, .inr 2, .inr 0, .inr 2, .inr 2, .inr 0, .inr 0, .inr 0, .inr 0, .inr 2, .inr 1, .inr 2, .inr 0]))
theorem cl_233 : cs_233.length = 117 := by decide +kernel
def cs_234 : List Sh := cs_233 ++ [.inl (0, 20)]
theorem cg_234_95 : cs_234[95]? = some (.inr (12, [.inl 96, .inr 0, .inr 0, .inr 0, .inr 0, .inr 0, .inr 0, .inr 0, .inr 0, .inl 97, .inl 98, .inr 0, .inl 99, .inl 100, .inr 0, .inr 0, .inl 101, .inl 102, .inl 103, .inl 104, .inl 105, .inl 106, .inl 107, .inl 108, .inl 109, .inl 110, .inl 111, .inl 112, .inl 113, .inl 114, .inl 115, .inl 116, .inr 2, .inr 2, .inr 2, .inr 2, .inr 2, .inr 2, .inr 0, .inr 2, .inr 2, .inr 0, .inr 0, .inr 0, .inr 0, .inr 2, .inr 1, .inr 2, .inr 0])) := by decide +kernel
def cs_235 : List Sh := cs_234.set 95 (.inr (12, [.inl 96, .inr 0, .inr 0, .inr 0, .inr 0, .inr 0, .inr 0, .inr 0, .inr 0, .inl 97, .inl 98, .inr 0, .inl 99, .inl 100, .inr 0, .inr 0, .inl 101, .inl 102, .inl 103, .inl 104, .inl 105, .inl 106, .inl 107, .inl 108, .inl 109, .inl 110, .inl 111, .inl 112, .inl 113, .inl 114, .inl 115, .inl 116, .inl 117, .inr 2, .inr 2, .inr 2, .inr 2, .inr 2, .inr 0, .inr 2, .inr 2, .inr 0, .inr 0, .inr 0, .inr 0, .inr 2, .inr 1, .inr 2, .inr 0]))
theorem cl_235 : cs_235.length = 118 := by decide +kernel
def cs_236 : List Sh := cs_235 ++ [.inl (0, 30)]
theorem cg_236_95 : cs_236[95]? = some (.inr (12, [.inl 96, .inr 0, .inr 0, .inr 0, .inr 0, .inr 0, .inr 0, .inr 0, .inr 0, .inl 97, .inl 98, .inr 0, .inl 99, .inl 100, .inr 0, .inr 0, .inl 101, .inl 102, .inl 103, .inl 104, .inl 105, .inl 106, .inl 107, .inl 108, .inl 109, .inl 110, .inl 111, .inl 112, .inl 113, .inl 114, .inl 115, .inl 116, .inl 117, .inr 2, .inr 2, .inr 2, .inr 2, .inr 2, .inr 0, .inr 2, .inr 2, .inr 0, .inr 0, .inr 0, .inr 0, .inr 2, .inr 1, .inr 2, .inr 0])) := by decide +kernel
def cs_237 : List Sh := cs_236.set 95 (.inr (12, [.inl 96, .inr 0, .inr 0, .inr 0, .inr 0, .inr 0, .inr 0, .inr 0, .inr 0, .inl 97, .inl 98, .inr 0, .inl 99, .inl 100, .inr 0, .inr 0, .inl 101, .inl 102, .inl 103, .inl 104, .inl 105, .inl 106, .inl 107, .inl 108, .inl 109, .inl 110, .inl 111, .inl 112, .inl 113, .inl 114, .inl 115, .inl 116, .inl 117, .inl 118, .inr 2, .inr 2, .inr 2, .inr 2, .inr 0, .inr 2, .inr 2, .inr 0, .inr 0, .inr 0, .inr 0, .inr 2, .inr 1, .inr 2, .inr 0]))
theorem cl_237 : cs_237.length = 119 := by decide +kernel
def cs_238 : List Sh := cs_237 ++ [.inl (0, 183)]
theorem cg_238_95 : cs_238[95]? = some (.inr (12, [.inl 96, .inr 0, .inr 0, .inr 0, .inr 0, .inr 0, .inr 0, .inr 0, .inr 0, .inl 97, .inl 98, .inr 0, .inl 99, .inl 100, .inr 0, .inr 0, .inl 101, .inl 102, .inl 103, .inl 104, .inl 105, .inl 106, .inl 107, .inl 108, .inl 109, .inl 110, .inl 111, .inl 112, .inl 113, .inl 114, .inl 115, .inl 116, .inl 117, .inl 118, .inr 2, .inr 2, .inr 2, .inr 2, .inr 0, .inr 2, .inr 2, .inr 0, .inr 0, .inr 0, .inr 0, .inr 2, .inr 1, .inr 2, .inr 0])) := by decide +kernel
def cs_239 : List Sh := cs_238.set 95 (.inr (12, [.inl 96, .inr 0, .inr 0, .inr 0, .inr 0, .inr 0, .inr 0, .inr 0, .inr 0, .inl 97, .inl 98, .inr 0, .inl 99, .inl 100, .inr 0, .inr 0, .inl 101, .inl 102, .inl 103, .inl 104, .inl 105, .inl 106, .inl 107, .inl 108, .inl 109, .inl 110, .inl 111, .inl 112, .inl 113, .inl 114, .inl 115, .inl 116, .inl 117, .inl 118, .inl 119, .inr 2, .inr 2, .inr 2, .inr 0, .inr 2, .inr 2, .inr 0, .inr 0, .inr 0, .inr 0, .inr 2, .inr 1, .inr 2, .inr 0]))
theorem cl_239 : cs_239.length = 120 := by decide +kernel
def cs_240 : List Sh := cs_239 ++ [.inl (0, 30)]
theorem cg_240_95 : cs_240[95]? = some (.inr (12, [.inl 96, .inr 0, .inr 0, .inr 0, .inr 0, .inr 0, .inr 0, .inr 0, .inr 0, .inl 97, .inl 98, .inr 0, .inl 99, .inl 100, .inr 0, .inr 0, .inl 101, .inl 102, .inl 103, .inl 104, .inl 105, .inl 106, .inl 107, .inl 108, .inl 109, .inl 110, .inl 111, .inl 112, .inl 113, .inl 114, .inl 115, .inl 116, .inl 117, .inl 118, .inl 119, .inr 2, .inr 2, .inr 2, .inr 0, .inr 2, .inr 2, .inr 0, .inr 0, .inr 0, .inr 0, .inr 2, .inr 1, .inr 2, .inr 0])) := by decide +kernel
def cs_241 : List Sh := cs_240.set 95 (.inr (12, [.inl 96, .inr 0, .inr 0, .inr 0, .inr 0, .inr 0, .inr 0, .inr 0, .inr 0, .inl 97, .inl 98, .inr 0, .inl 99, .inl 100, .inr 0, .inr 0, .inl 101, .inl 102, .inl 103, .inl 104, .inl 105, .inl 106, .inl 107, .inl 108, .inl 109, .inl 110, .inl 111, .inl 112, .inl 113, .inl 114, .inl 115, .inl 116, .inl 117, .inl 118, .inl 119, .inl 120, .inr 2, .inr 2, .inr 0, .inr 2, .inr 2, .inr 0, .inr 0, .inr 0, .inr 0, .inr 2, .inr 1, .inr 2, .inr 0]))
theorem cl_241 : cs_241.length = 121 := by decide +kernel
def cs_242 : List Sh := cs_241 ++ [.inl (3, 30)]
theorem cg_242_95 : cs_242[95]? = some (.inr (12, [.inl 96, .inr 0, .inr 0, .inr 0, .inr 0, .inr 0, .inr 0, .inr 0, .inr 0, .inl 97, .inl 98, .inr 0, .inl 99, .inl 100, .inr 0, .inr 0, .inl 101, .inl 102, .inl 103, .inl 104, .inl 105, .inl 106, .inl 107, .inl 108, .inl 109, .inl 110, .inl 111, .inl 112, .inl 113, .inl 114, .inl 115, .inl 116, .inl 117, .inl 118, .inl 119, .inl 120, .inr 2, .inr 2, .inr 0, .inr 2, .inr 2, .inr 0, .inr 0, .inr 0, .inr 0, .inr 2, .inr 1, .inr 2, .inr 0])) := by decide +kernel
def cs_243 : List Sh := cs_242.set 95 (.inr (12, [.inl 96, .inr 0, .inr 0, .inr 0, .inr 0, .inr 0, .inr 0, .inr 0, .inr 0, .inl 97, .inl 98, .inr 0, .inl 99, .inl 100, .inr 0, .inr 0, .inl 101, .inl 102, .inl 103, .inl 104, .inl 105, .inl 106, .inl 107, .inl 108, .inl 109, .inl 110, .inl 111, .inl 112, .inl 113, .inl 114, .inl 115, .inl 116, .inl 117, .inl 118, .inl 119, .inl 120, .inl 121, .inr 2, .inr 0, .inr 2, .inr 2, .inr 0, .inr 0, .inr 0, .inr 0, .inr 2, .inr 1, .inr 2, .inr 0]))
theorem cl_243 : cs_243.length = 122 := by decide +kernel
def cs_244 : List Sh := cs_243 ++ [.inl (0, 20)]
theorem cg_244_95 : cs_244[95]? = some (.inr (12, [.inl 96, .inr 0, .inr 0, .inr 0, .inr 0, .inr 0, .inr 0, .inr 0, .inr 0, .inl 97, .inl 98, .inr 0, .inl 99, .inl 100, .inr 0, .inr 0, .inl 101, .inl 102, .inl 103, .inl 104, .inl 105, .inl 106, .inl 107, .inl 108, .inl 109, .inl 110, .inl 111, .inl 112, .inl 113, .inl 114, .inl 115, .inl 116, .inl 117, .inl 118, .inl 119, .inl 120, .inl 121, .inr 2, .inr 0, .inr 2, .inr 2, .inr 0, .inr 0, .inr 0, .inr 0, .inr 2, .inr 1, .inr 2, .inr 0])) := by decide +kernel
def cs_245 : List Sh := cs_244.set 95 (.inr (12, [.inl 96, .inr 0, .inr 0, .inr 0, .inr 0, .inr 0, .inr 0, .inr 0, .inr 0, .inl 97, .inl 98, .inr 0, .inl 99, .inl 100, .inr 0, .inr 0, .inl 101, .inl 102, .inl 103, .inl 104, .inl 105, .inl 106, .inl 107, .inl 108, .inl 109, .inl 110, .inl 111, .inl 112, .inl 113, .inl 114, .inl 115, .inl 116, .inl 117, .inl 118, .inl 119, .inl 120, .inl 121, .inl 122, .inr 0, .inr 2, .inr 2, .inr 0, .inr 0, .inr 0, .inr 0, .inr 2, .inr 1, .inr 2, .inr 0]))
theorem cl_245 : cs_245.length = 123 := by decide +kernel
def cs_246 : List Sh := cs_245 ++ [.inl (0, 24)]
theorem cg_246_95 : cs_246[95]? = some (.inr (12, [.inl 96, .inr 0, .inr 0, .inr 0, .inr 0, .inr 0, .inr 0, .inr 0, .inr 0, .inl 97, .inl 98, .inr 0, .inl 99, .inl 100, .inr 0, .inr 0, .inl 101, .inl 102, .inl 103, .inl 104, .inl 105, .inl 106, .inl 107, .inl 108, .inl 109, .inl 110, .inl 111, .inl 112, .inl 113, .inl 114, .inl 115, .inl 116, .inl 117, .inl 118, .inl 119, .inl 120, .inl 121, .inl 122, .inr 0, .inr 2, .inr 2, .inr 0, .inr 0, .inr 0, .inr 0, .inr 2, .inr 1, .inr 2, .inr 0])) := by decide +kernel
def cs_247 : List Sh := cs_246.set 95 (.inr (12, [.inl 96, .inr 0, .inr 0, .inr 0, .inr 0, .inr 0, .inr 0, .inr 0, .inr 0, .inl 97, .inl 98, .inr 0, .inl 99, .inl 100, .inr 0, .inr 0, .inl 101, .inl 102, .inl 103, .inl 104, .inl 105, .inl 106, .inl 107, .inl 108, .inl 109, .inl 110, .inl 111, .inl 112, .inl 113, .inl 114, .inl 115, .inl 116, .inl 117, .inl 118, .inl 119, .inl 120, .inl 121, .inl 122, .inr 0, .inl 123, .inr 2, .inr 0, .inr 0, .inr 0, .inr 0, .inr 2, .inr 1, .inr 2, .inr 0]))
theorem cl_247 : cs_247.length = 124 := by decide +kernel
def cs_248 : List Sh := cs_247 ++ [.inl (0, 3660)]
theorem cg_248_95 : cs_248[95]? = some (.inr (12, [.inl 96, .inr 0, .inr 0, .inr 0, .inr 0, .inr 0, .inr 0, .inr 0, .inr 0, .inl 97, .inl 98, .inr 0, .inl 99, .inl 100, .inr 0, .inr 0, .inl 101, .inl 102, .inl 103, .inl 104, .inl 105, .inl 106, .inl 107, .inl 108, .inl 109, .inl 110, .inl 111, .inl 112, .inl 113, .inl 114, .inl 115, .inl 116, .inl 117, .inl 118, .inl 119, .inl 120, .inl 121, .inl 122, .inr 0, .inl 123, .inr 2, .inr 0, .inr 0, .inr 0, .inr 0, .inr 2, .inr 1, .inr 2, .inr 0])) := by decide +kernel
def cs_249 : List Sh := cs_248.set 95 (.inr (12, [.inl 96, .inr 0, .inr 0, .inr 0, .inr 0, .inr 0, .inr 0, .inr 0, .inr 0, .inl 97, .inl 98, .inr 0, .inl 99, .inl 100, .inr 0, .inr 0, .inl 101, .inl 102, .inl 103, .inl 104, .inl 105, .inl 106, .inl 107, .inl 108, .inl 109, .inl 110, .inl 111, .inl 112, .inl 113, .inl 114, .inl 115, .inl 116, .inl 117, .inl 118, .inl 119, .inl 120, .inl 121, .inl 122, .inr 0, .inl 123, .inl 124, .inr 0, .inr 0, .inr 0, .inr 0, .inr 2, .inr 1, .inr 2, .inr 0]))
theorem cl_249 : cs_249.length = 125 := by decide +kernel
def cs_250 : List Sh := cs_249 ++ [.inl (0, 120)]
theorem cg_250_95 : cs_250[95]? = some (.inr (12, [.inl 96, .inr 0, .inr 0, .inr 0, .inr 0, .inr 0, .inr 0, .inr 0, .inr 0, .inl 97, .inl 98, .inr 0, .inl 99, .inl 100, .inr 0, .inr 0, .inl 101, .inl 102, .inl 103, .inl 104, .inl 105, .inl 106, .inl 107, .inl 108, .inl 109, .inl 110, .inl 111, .inl 112, .inl 113, .inl 114, .inl 115, .inl 116, .inl 117, .inl 118, .inl 119, .inl 120, .inl 121, .inl 122, .inr 0, .inl 123, .inl 124, .inr 0, .inr 0, .inr 0, .inr 0, .inr 2, .inr 1, .inr 2, .inr 0])) := by decide +kernel
def cs_251 : List Sh := cs_250.set 95 (.inr (12, [.inl 96, .inr 0, .inr 0, .inr 0, .inr 0, .inr 0, .inr 0, .inr 0, .inr 0, .inl 97, .inl 98, .inr 0, .inl 99, .inl 100, .inr 0, .inr 0, .inl 101, .inl 102, .inl 103, .inl 104, .inl 105, .inl 106, .inl 107, .inl 108, .inl 109, .inl 110, .inl 111, .inl 112, .inl 113, .inl 114, .inl 115, .inl 116, .inl 117, .inl 118, .inl 119, .inl 120, .inl 121, .inl 122, .inr 0, .inl 123, .inl 124, .inr 0, .inr 0, .inr 0, .inr 0, .inl 125, .inr 1, .inr 2, .inr 0]))
theorem cg_251_95 : cs_251[95]? = some (.inr (12, [.inl 96, .inr 0, .inr 0, .inr 0, .inr 0, .inr 0, .inr 0, .inr 0, .inr 0, .inl 97, .inl 98, .inr 0, .inl 99, .inl 100, .inr 0, .inr 0, .inl 101, .inl 102, .inl 103, .inl 104, .inl 105, .inl 106, .inl 107, .inl 108, .inl 109, .inl 110, .inl 111, .inl 112, .inl 113, .inl 114, .inl 115, .inl 116, .inl 117, .inl 118, .inl 119, .inl 120, .inl 121, .inl 122, .inr 0, .inl 123, .inl 124, .inr 0, .inr 0, .inr 0, .inr 0, .inl 125, .inr 1, .inr 2, .inr 0])) := by decide +kernel
def cm_39 : Mem := st cm_38 95 46 (1)
theorem cl_251 : cs_251.length = 126 := by decide +kernel
def cs_252 : List Sh := cs_251 ++ [.inl (0, 153)]
theorem cg_252_95 : cs_252[95]? = some (.inr (12, [.inl 96, .inr 0, .inr 0, .inr 0, .inr 0, .inr 0, .inr 0, .inr 0, .inr 0, .inl 97, .inl 98, .inr 0, .inl 99, .inl 100, .inr 0, .inr 0, .inl 101, .inl 102, .inl 103, .inl 104, .inl 105, .inl 106, .inl 107, .inl 108, .inl 109, .inl 110, .inl 111, .inl 112, .inl 113, .inl 114, .inl 115, .inl 116, .inl 117, .inl 118, .inl 119, .inl 120, .inl 121, .inl 122, .inr 0, .inl 123, .inl 124, .inr 0, .inr 0, .inr 0, .inr 0, .inl 125, .inr 1, .inr 2, .inr 0])) := by decide +kernel
def cs_253 : List Sh := cs_252.set 95 (.inr (12, [.inl 96, .inr 0, .inr 0, .inr 0, .inr 0, .inr 0, .inr 0, .inr 0, .inr 0, .inl 97, .inl 98, .inr 0, .inl 99, .inl 100, .inr 0, .inr 0, .inl 101, .inl 102, .inl 103, .inl 104, .inl 105, .inl 106, .inl 107, .inl 108, .inl 109, .inl 110, .inl 111, .inl 112, .inl 113, .inl 114, .inl 115, .inl 116, .inl 117, .inl 118, .inl 119, .inl 120, .inl 121, .inl 122, .inr 0, .inl 123, .inl 124, .inr 0, .inr 0, .inr 0, .inr 0, .inl 125, .inr 1, .inl 126, .inr 0]))
theorem bl_X11 : ∀ j, j < 17 → defaultValue (tyX11 j) = vp_V (fvsC 0 (fun _ => 0) 0 [.inr 2, .inr 2, .inr 2, .inr 2, .inr 2, .inr 0, .inr 2, .inr 2, .inr 2, .inr 2, .inr 2, .inr 2, .inr 2, .inr 2, .inr 2, .inr 2, .inr 0]) j := by decide +kernel
theorem wcl_L_7 : Cond.classLink RL 7 RX11 ∈ TW := tw_mk 142 (by decide +kernel) rfl
theorem win_X11 : Cond.instantiable RX11 17 ∈ TW := tw_mk 143 (by decide +kernel) rfl
theorem wii_X11 : Cond.initialized RX11 ∈ TW := tw_mk 125 (by decide +kernel) rfl
theorem wob : Cond.instanceMethod objectInit ∈ TW := tw_mk 148 (by decide +kernel) rfl
theorem woc : Cond.code objectInit ⟨#[0xb1]⟩ 1 none ∈ TW := tw_mk 149 (by decide +kernel) rfl
theorem bl_X10 : ∀ j, j < 2 → defaultValue (tyX10 j) = vp_V (fvsC 0 (fun _ => 0) 0 [.inr 2, .inr 0]) j := by decide +kernel
theorem wcl_X11_7 : Cond.classLink RX11 7 RX10 ∈ TW := tw_mk 150 (by decide +kernel) rfl
theorem win_X10 : Cond.instantiable RX10 2 ∈ TW := tw_mk 151 (by decide +kernel) rfl
theorem wii_X10 : Cond.initialized RX10 ∈ TW := tw_mk 126 (by decide +kernel) rfl
theorem wa_byte : Cond.arrayClass .byte ∈ TW := tw_mk 167 (by decide +kernel) rfl
theorem yc_X10_init : YC yX10_init cX10_init 1 0 := ⟨⟨tw_mk 153 (by decide +kernel) rfl, tw_mk 126 (by decide +kernel) rfl, tw_mk 154 (by decide +kernel) rfl⟩, by decide +kernel, by decide +kernel, by decide +kernel, by decide +kernel⟩
theorem bl_X6 : ∀ j, j < 8 → defaultValue (tyX6 j) = vp_V (fvsC 0 (fun _ => 0) 0 [.inr 2, .inr 2, .inr 2, .inr 0, .inr 0, .inr 0, .inr 2, .inr 0]) j := by decide +kernel
theorem wcl_X11_16 : Cond.classLink RX11 16 RX6 ∈ TW := tw_mk 168 (by decide +kernel) rfl
theorem win_X6 : Cond.instantiable RX6 8 ∈ TW := tw_mk 169 (by decide +kernel) rfl
theorem wii_X6 : Cond.initialized RX6 ∈ TW := tw_mk 127 (by decide +kernel) rfl
theorem bl_X5 : ∀ j, j < 7 → defaultValue (tyX5 j) = vp_V (fvsC 0 (fun _ => 0) 0 [.inr 0, .inr 0, .inr 2, .inr 2, .inr 2, .inr 2, .inr 2]) j := by decide +kernel
theorem wcl_X6_9 : Cond.classLink RX6 9 RX5 ∈ TW := tw_mk 174 (by decide +kernel) rfl
theorem win_X5 : Cond.instantiable RX5 7 ∈ TW := tw_mk 175 (by decide +kernel) rfl
theorem wii_X5 : Cond.initialized RX5 ∈ TW := tw_mk 128 (by decide +kernel) rfl
theorem wa_int : Cond.arrayClass .int ∈ TW := tw_mk 242 (by decide +kernel) rfl
theorem yc_X5_init : YC yX5_init cX5_init 1 0 := ⟨⟨tw_mk 177 (by decide +kernel) rfl, tw_mk 128 (by decide +kernel) rfl, tw_mk 178 (by decide +kernel) rfl⟩, by decide +kernel, by decide +kernel, by decide +kernel, by decide +kernel⟩
theorem yc_X6_init : YC yX6_init cX6_init 2 1 := ⟨⟨tw_mk 171 (by decide +kernel) rfl, tw_mk 127 (by decide +kernel) rfl, tw_mk 172 (by decide +kernel) rfl⟩, by decide +kernel, by decide +kernel, by decide +kernel, by decide +kernel⟩
theorem wcl_X11_25 : Cond.classLink RX11 25 RX5 ∈ TW := tw_mk 274 (by decide +kernel) rfl
theorem bl_X1 : ∀ j, j < 13 → defaultValue (tyX1 j) = vp_V (fvsC 0 (fun _ => 0) 0 [.inr 2, .inr 2, .inr 2, .inr 2, .inr 2, .inr 2, .inr 2, .inr 2, .inr 2, .inr 2, .inr 2, .inr 0, .inr 0]) j := by decide +kernel
theorem wcl_X11_39 : Cond.classLink RX11 39 RX1 ∈ TW := tw_mk 276 (by decide +kernel) rfl
theorem win_X1 : Cond.instantiable RX1 13 ∈ TW := tw_mk 277 (by decide +kernel) rfl
theorem wii_X1 : Cond.initialized RX1 ∈ TW := tw_mk 129 (by decide +kernel) rfl
theorem bl_X2 : ∀ j, j < 4 → defaultValue (tyX2 j) = vp_V (fvsC 0 (fun _ => 0) 0 [.inr 2, .inr 2, .inr 2, .inr 2]) j := by decide +kernel
theorem wcl_X1_42 : Cond.classLink RX1 42 RX2 ∈ TW := tw_mk 282 (by decide +kernel) rfl
theorem win_X2 : Cond.instantiable RX2 4 ∈ TW := tw_mk 283 (by decide +kernel) rfl
theorem wii_X2 : Cond.initialized RX2 ∈ TW := tw_mk 130 (by decide +kernel) rfl
theorem yc_X2_init : YC yX2_init cX2_init 1 0 := ⟨⟨tw_mk 285 (by decide +kernel) rfl, tw_mk 130 (by decide +kernel) rfl, tw_mk 286 (by decide +kernel) rfl⟩, by decide +kernel, by decide +kernel, by decide +kernel, by decide +kernel⟩
theorem yc_X1_init : YC yX1_init cX1_init 1 0 := ⟨⟨tw_mk 279 (by decide +kernel) rfl, tw_mk 129 (by decide +kernel) rfl, tw_mk 280 (by decide +kernel) rfl⟩, by decide +kernel, by decide +kernel, by decide +kernel, by decide +kernel⟩
theorem wcl_X11_46 : Cond.classLink RX11 46 "RiverRanks$Stems" ∈ TW := tw_mk 361 (by decide +kernel) rfl
theorem bl_X9 : ∀ j, j < 6 → defaultValue (tyX9 j) = vp_V (fvsC 0 (fun _ => 0) 0 [.inr 2, .inr 2, .inr 2, .inr 2, .inr 2, .inr 2]) j := by decide +kernel
theorem win_X9 : Cond.instantiable RX9 6 ∈ TW := tw_mk 363 (by decide +kernel) rfl
theorem wii_X9 : Cond.initialized RX9 ∈ TW := tw_mk 131 (by decide +kernel) rfl
theorem yc_X9_init : YC yX9_init cX9_init 1 0 := ⟨⟨tw_mk 365 (by decide +kernel) rfl, tw_mk 131 (by decide +kernel) rfl, tw_mk 366 (by decide +kernel) rfl⟩, by decide +kernel, by decide +kernel, by decide +kernel, by decide +kernel⟩
theorem bl_X3 : ∀ j, j < 3 → defaultValue (tyX3 j) = vp_V (fvsC 0 (fun _ => 0) 0 [.inr 0, .inr 0, .inr 2]) j := by decide +kernel
theorem wcl_X11_53 : Cond.classLink RX11 53 RX3 ∈ TW := tw_mk 392 (by decide +kernel) rfl
theorem win_X3 : Cond.instantiable RX3 3 ∈ TW := tw_mk 393 (by decide +kernel) rfl
theorem wii_X3 : Cond.initialized RX3 ∈ TW := tw_mk 132 (by decide +kernel) rfl
theorem yc_X3_init : YC yX3_init cX3_init 1 0 := ⟨⟨tw_mk 395 (by decide +kernel) rfl, tw_mk 132 (by decide +kernel) rfl, tw_mk 396 (by decide +kernel) rfl⟩, by decide +kernel, by decide +kernel, by decide +kernel, by decide +kernel⟩
theorem bl_X0 : ∀ j, j < 4 → defaultValue (tyX0 j) = vp_V (fvsC 0 (fun _ => 0) 0 [.inr 0, .inr 0, .inr 2, .inr 2]) j := by decide +kernel
theorem wcl_X11_60 : Cond.classLink RX11 60 RX0 ∈ TW := tw_mk 409 (by decide +kernel) rfl
theorem win_X0 : Cond.instantiable RX0 4 ∈ TW := tw_mk 410 (by decide +kernel) rfl
theorem wii_X0 : Cond.initialized RX0 ∈ TW := tw_mk 133 (by decide +kernel) rfl
theorem yc_X0_init : YC yX0_init cX0_init 1 0 := ⟨⟨tw_mk 412 (by decide +kernel) rfl, tw_mk 133 (by decide +kernel) rfl, tw_mk 413 (by decide +kernel) rfl⟩, by decide +kernel, by decide +kernel, by decide +kernel, by decide +kernel⟩
theorem bl_X8 : ∀ j, j < 3 → defaultValue (tyX8 j) = vp_V (fvsC 0 (fun _ => 0) 0 [.inr 0, .inr 2, .inr 2]) j := by decide +kernel
theorem wcl_X11_67 : Cond.classLink RX11 67 RX8 ∈ TW := tw_mk 430 (by decide +kernel) rfl
theorem win_X8 : Cond.instantiable RX8 3 ∈ TW := tw_mk 431 (by decide +kernel) rfl
theorem wii_X8 : Cond.initialized RX8 ∈ TW := tw_mk 134 (by decide +kernel) rfl
theorem yc_X8_init : YC yX8_init cX8_init 1 0 := ⟨⟨tw_mk 433 (by decide +kernel) rfl, tw_mk 134 (by decide +kernel) rfl, tw_mk 434 (by decide +kernel) rfl⟩, by decide +kernel, by decide +kernel, by decide +kernel, by decide +kernel⟩
theorem bl_X4 : ∀ j, j < 2 → defaultValue (tyX4 j) = vp_V (fvsC 0 (fun _ => 0) 0 [.inr 0, .inr 2]) j := by decide +kernel
theorem wcl_X11_74 : Cond.classLink RX11 74 RX4 ∈ TW := tw_mk 447 (by decide +kernel) rfl
theorem win_X4 : Cond.instantiable RX4 2 ∈ TW := tw_mk 448 (by decide +kernel) rfl
theorem wii_X4 : Cond.initialized RX4 ∈ TW := tw_mk 135 (by decide +kernel) rfl
theorem yc_X4_init : YC yX4_init cX4_init 1 0 := ⟨⟨tw_mk 450 (by decide +kernel) rfl, tw_mk 135 (by decide +kernel) rfl, tw_mk 451 (by decide +kernel) rfl⟩, by decide +kernel, by decide +kernel, by decide +kernel, by decide +kernel⟩
theorem bl_X7 : ∀ j, j < 4 → defaultValue (tyX7 j) = vp_V (fvsC 0 (fun _ => 0) 0 [.inr 2, .inr 2, .inr 2, .inr 0]) j := by decide +kernel
theorem wcl_X11_81 : Cond.classLink RX11 81 RX7 ∈ TW := tw_mk 462 (by decide +kernel) rfl
theorem win_X7 : Cond.instantiable RX7 4 ∈ TW := tw_mk 463 (by decide +kernel) rfl
theorem wii_X7 : Cond.initialized RX7 ∈ TW := tw_mk 136 (by decide +kernel) rfl
theorem yc_X7_init : YC yX7_init cX7_init 1 0 := ⟨⟨tw_mk 465 (by decide +kernel) rfl, tw_mk 136 (by decide +kernel) rfl, tw_mk 466 (by decide +kernel) rfl⟩, by decide +kernel, by decide +kernel, by decide +kernel, by decide +kernel⟩
theorem yc_X11_init : YC yX11_init cX11_init 1 0 := ⟨⟨tw_mk 145 (by decide +kernel) rfl, tw_mk 125 (by decide +kernel) rfl, tw_mk 146 (by decide +kernel) rfl⟩, by decide +kernel, by decide +kernel, by decide +kernel, by decide +kernel⟩
theorem bl_X12 : ∀ j, j < 49 → defaultValue (tyX12 j) = vp_V (fvsC 0 (fun _ => 0) 0 [.inr 2, .inr 0, .inr 0, .inr 0, .inr 0, .inr 0, .inr 0, .inr 0, .inr 0, .inr 2, .inr 2, .inr 0, .inr 2, .inr 2, .inr 0, .inr 0, .inr 2, .inr 2, .inr 2, .inr 2, .inr 2, .inr 2, .inr 2, .inr 2, .inr 2, .inr 2, .inr 2, .inr 2, .inr 2, .inr 2, .inr 2, .inr 2, .inr 2, .inr 2, .inr 2, .inr 2, .inr 2, .inr 2, .inr 0, .inr 2, .inr 2, .inr 0, .inr 0, .inr 0, .inr 0, .inr 2, .inr 1, .inr 2, .inr 0]) j := by decide +kernel
theorem wcl_L_10 : Cond.classLink RL 10 RX12 ∈ TW := tw_mk 1201 (by decide +kernel) rfl
theorem win_X12 : Cond.instantiable RX12 49 ∈ TW := tw_mk 1202 (by decide +kernel) rfl
theorem wii_X12 : Cond.initialized RX12 ∈ TW := tw_mk 137 (by decide +kernel) rfl
theorem wa_char : Cond.arrayClass .char ∈ TW := tw_mk 1355 (by decide +kernel) rfl
theorem wa_long : Cond.arrayClass .long ∈ TW := tw_mk 1356 (by decide +kernel) rfl
theorem wa_boolean : Cond.arrayClass .boolean ∈ TW := tw_mk 1357 (by decide +kernel) rfl
theorem yc_X12_init : YC yX12_init cX12_init 1 0 := ⟨⟨tw_mk 1204 (by decide +kernel) rfl, tw_mk 137 (by decide +kernel) rfl, tw_mk 1205 (by decide +kernel) rfl⟩, by decide +kernel, by decide +kernel, by decide +kernel, by decide +kernel⟩
