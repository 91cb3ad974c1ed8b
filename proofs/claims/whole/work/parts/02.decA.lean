theorem dX0_init_0 : decode cX0_init 0 = .ok (.aload_n 0, 1) := by decide +kernel
theorem dX0_init_1 : decode cX0_init 1 = .ok (.invokespecial 3, 3) := by decide +kernel
theorem dX0_init_4 : decode cX0_init 4 = .ok (.aload_n 0, 1) := by decide +kernel
theorem dX0_init_5 : decode cX0_init 5 = .ok (.iconst 4, 1) := by decide +kernel
theorem dX0_init_6 : decode cX0_init 6 = .ok (.newarray .int, 2) := by decide +kernel
theorem dX0_init_8 : decode cX0_init 8 = .ok (.putfield 9, 3) := by decide +kernel
theorem dX0_init_11 : decode cX0_init 11 = .ok (.aload_n 0, 1) := by decide +kernel
theorem dX0_init_12 : decode cX0_init 12 = .ok (.bipush 120, 2) := by decide +kernel
theorem dX0_init_14 : decode cX0_init 14 = .ok (.newarray .int, 2) := by decide +kernel
theorem dX0_init_16 : decode cX0_init 16 = .ok (.putfield 15, 3) := by decide +kernel
theorem dX0_init_19 : decode cX0_init 19 = .ok (.return_, 1) := by decide +kernel
theorem dX0_note_0 : decode cX0_note 0 = .ok (.aload_n 0, 1) := by decide +kernel
theorem dX0_note_1 : decode cX0_note 1 = .ok (.getfield 15, 3) := by decide +kernel
theorem dX0_note_4 : decode cX0_note 4 = .ok (.iload_n 1, 1) := by decide +kernel
theorem dX0_note_5 : decode cX0_note 5 = .ok (.bipush 30, 2) := by decide +kernel
theorem dX0_note_7 : decode cX0_note 7 = .ok (.imul, 1) := by decide +kernel
theorem dX0_note_8 : decode cX0_note 8 = .ok (.iload_n 2, 1) := by decide +kernel
theorem dX0_note_9 : decode cX0_note 9 = .ok (.iadd, 1) := by decide +kernel
theorem dX0_note_10 : decode cX0_note 10 = .ok (.iload_n 3, 1) := by decide +kernel
theorem dX0_note_11 : decode cX0_note 11 = .ok (.iastore, 1) := by decide +kernel
theorem dX0_note_12 : decode cX0_note 12 = .ok (.return_, 1) := by decide +kernel
theorem dX0_begin_0 : decode cX0_begin 0 = .ok (.aload_n 0, 1) := by decide +kernel
theorem dX0_begin_1 : decode cX0_begin 1 = .ok (.iconst 1, 1) := by decide +kernel
theorem dX0_begin_2 : decode cX0_begin 2 = .ok (.putfield 18, 3) := by decide +kernel
theorem dX0_begin_5 : decode cX0_begin 5 = .ok (.aload_n 0, 1) := by decide +kernel
theorem dX0_begin_6 : decode cX0_begin 6 = .ok (.getfield 9, 3) := by decide +kernel
theorem dX0_begin_9 : decode cX0_begin 9 = .ok (.iconst 0, 1) := by decide +kernel
theorem dX0_begin_10 : decode cX0_begin 10 = .ok (.invokestatic 22, 3) := by decide +kernel
theorem dX0_begin_13 : decode cX0_begin 13 = .ok (.return_, 1) := by decide +kernel
theorem dX0_compare_0 : decode cX0_compare 0 = .ok (.aload_n 0, 1) := by decide +kernel
theorem dX0_compare_1 : decode cX0_compare 1 = .ok (.getfield 15, 3) := by decide +kernel
theorem dX0_compare_4 : decode cX0_compare 4 = .ok (.iload_n 1, 1) := by decide +kernel
theorem dX0_compare_5 : decode cX0_compare 5 = .ok (.bipush 30, 2) := by decide +kernel
theorem dX0_compare_7 : decode cX0_compare 7 = .ok (.imul, 1) := by decide +kernel
theorem dX0_compare_8 : decode cX0_compare 8 = .ok (.iload_n 2, 1) := by decide +kernel
theorem dX0_compare_9 : decode cX0_compare 9 = .ok (.iadd, 1) := by decide +kernel
theorem dX0_compare_10 : decode cX0_compare 10 = .ok (.iaload, 1) := by decide +kernel
theorem dX0_compare_11 : decode cX0_compare 11 = .ok (.iload_n 3, 1) := by decide +kernel
theorem dX0_compare_12 : decode cX0_compare 12 = .ok (.if_icmp .eq 13, 3) := by decide +kernel
theorem dX0_compare_15 : decode cX0_compare 15 = .ok (.aload_n 0, 1) := by decide +kernel
theorem dX0_compare_16 : decode cX0_compare 16 = .ok (.getfield 9, 3) := by decide +kernel
theorem dX0_compare_19 : decode cX0_compare 19 = .ok (.iload_n 1, 1) := by decide +kernel
theorem dX0_compare_20 : decode cX0_compare 20 = .ok (.dup2, 1) := by decide +kernel
theorem dX0_compare_21 : decode cX0_compare 21 = .ok (.iaload, 1) := by decide +kernel
theorem dX0_compare_22 : decode cX0_compare 22 = .ok (.iconst 1, 1) := by decide +kernel
theorem dX0_compare_23 : decode cX0_compare 23 = .ok (.iadd, 1) := by decide +kernel
theorem dX0_compare_24 : decode cX0_compare 24 = .ok (.iastore, 1) := by decide +kernel
theorem dX0_compare_25 : decode cX0_compare 25 = .ok (.return_, 1) := by decide +kernel
theorem dX1_init_0 : decode cX1_init 0 = .ok (.aload_n 0, 1) := by decide +kernel
theorem dX1_init_1 : decode cX1_init 1 = .ok (.invokespecial 3, 3) := by decide +kernel
theorem dX1_init_4 : decode cX1_init 4 = .ok (.aload_n 0, 1) := by decide +kernel
theorem dX1_init_5 : decode cX1_init 5 = .ok (.bipush 20, 2) := by decide +kernel
theorem dX1_init_7 : decode cX1_init 7 = .ok (.newarray .int, 2) := by decide +kernel
theorem dX1_init_9 : decode cX1_init 9 = .ok (.putfield 9, 3) := by decide +kernel
theorem dX1_init_12 : decode cX1_init 12 = .ok (.aload_n 0, 1) := by decide +kernel
theorem dX1_init_13 : decode cX1_init 13 = .ok (.bipush 30, 2) := by decide +kernel
theorem dX1_init_15 : decode cX1_init 15 = .ok (.newarray .int, 2) := by decide +kernel
theorem dX1_init_17 : decode cX1_init 17 = .ok (.putfield 15, 3) := by decide +kernel
theorem dX1_init_20 : decode cX1_init 20 = .ok (.aload_n 0, 1) := by decide +kernel
theorem dX1_init_21 : decode cX1_init 21 = .ok (.bipush 20, 2) := by decide +kernel
theorem dX1_init_23 : decode cX1_init 23 = .ok (.newarray .int, 2) := by decide +kernel
theorem dX1_init_25 : decode cX1_init 25 = .ok (.putfield 18, 3) := by decide +kernel
theorem dX1_init_28 : decode cX1_init 28 = .ok (.aload_n 0, 1) := by decide +kernel
theorem dX1_init_29 : decode cX1_init 29 = .ok (.bipush 20, 2) := by decide +kernel
theorem dX1_init_31 : decode cX1_init 31 = .ok (.newarray .int, 2) := by decide +kernel
theorem dX1_init_33 : decode cX1_init 33 = .ok (.putfield 21, 3) := by decide +kernel
theorem dX1_init_36 : decode cX1_init 36 = .ok (.aload_n 0, 1) := by decide +kernel
theorem dX1_init_37 : decode cX1_init 37 = .ok (.bipush 20, 2) := by decide +kernel
theorem dX1_init_39 : decode cX1_init 39 = .ok (.newarray .int, 2) := by decide +kernel
theorem dX1_init_41 : decode cX1_init 41 = .ok (.putfield 24, 3) := by decide +kernel
theorem dX1_init_44 : decode cX1_init 44 = .ok (.aload_n 0, 1) := by decide +kernel
theorem dX1_init_45 : decode cX1_init 45 = .ok (.bipush 20, 2) := by decide +kernel
theorem dX1_init_47 : decode cX1_init 47 = .ok (.newarray .int, 2) := by decide +kernel
theorem dX1_init_49 : decode cX1_init 49 = .ok (.putfield 27, 3) := by decide +kernel
theorem dX1_init_52 : decode cX1_init 52 = .ok (.aload_n 0, 1) := by decide +kernel
theorem dX1_init_53 : decode cX1_init 53 = .ok (.bipush 20, 2) := by decide +kernel
theorem dX1_init_55 : decode cX1_init 55 = .ok (.newarray .int, 2) := by decide +kernel
theorem dX1_init_57 : decode cX1_init 57 = .ok (.putfield 30, 3) := by decide +kernel
theorem dX1_init_60 : decode cX1_init 60 = .ok (.aload_n 0, 1) := by decide +kernel
theorem dX1_init_61 : decode cX1_init 61 = .ok (.bipush 20, 2) := by decide +kernel
theorem dX1_init_63 : decode cX1_init 63 = .ok (.newarray .int, 2) := by decide +kernel
theorem dX1_init_65 : decode cX1_init 65 = .ok (.putfield 33, 3) := by decide +kernel
theorem dX1_init_68 : decode cX1_init 68 = .ok (.aload_n 0, 1) := by decide +kernel
theorem dX1_init_69 : decode cX1_init 69 = .ok (.bipush 30, 2) := by decide +kernel
theorem dX1_init_71 : decode cX1_init 71 = .ok (.newarray .int, 2) := by decide +kernel
theorem dX1_init_73 : decode cX1_init 73 = .ok (.putfield 36, 3) := by decide +kernel
theorem dX1_init_76 : decode cX1_init 76 = .ok (.aload_n 0, 1) := by decide +kernel
theorem dX1_init_77 : decode cX1_init 77 = .ok (.bipush 30, 2) := by decide +kernel
theorem dX1_init_79 : decode cX1_init 79 = .ok (.newarray .int, 2) := by decide +kernel
theorem dX1_init_81 : decode cX1_init 81 = .ok (.putfield 39, 3) := by decide +kernel
theorem dX1_init_84 : decode cX1_init 84 = .ok (.aload_n 0, 1) := by decide +kernel
theorem dX1_init_85 : decode cX1_init 85 = .ok (.new 42, 3) := by decide +kernel
theorem dX1_init_88 : decode cX1_init 88 = .ok (.dup, 1) := by decide +kernel
theorem dX1_init_89 : decode cX1_init 89 = .ok (.invokespecial 44, 3) := by decide +kernel
theorem dX1_init_92 : decode cX1_init 92 = .ok (.putfield 45, 3) := by decide +kernel
theorem dX1_init_95 : decode cX1_init 95 = .ok (.return_, 1) := by decide +kernel
theorem dX1_figure_0 : decode cX1_figure 0 = .ok (.aload_n 0, 1) := by decide +kernel
theorem dX1_figure_1 : decode cX1_figure 1 = .ok (.aload_n 1, 1) := by decide +kernel
theorem dX1_figure_2 : decode cX1_figure 2 = .ok (.invokevirtual 49, 3) := by decide +kernel
theorem dX1_figure_5 : decode cX1_figure 5 = .ok (.aload_n 0, 1) := by decide +kernel
theorem dX1_figure_6 : decode cX1_figure 6 = .ok (.aload_n 1, 1) := by decide +kernel
theorem dX1_figure_7 : decode cX1_figure 7 = .ok (.invokevirtual 53, 3) := by decide +kernel
theorem dX1_figure_10 : decode cX1_figure 10 = .ok (.aload_n 0, 1) := by decide +kernel
theorem dX1_figure_11 : decode cX1_figure 11 = .ok (.aload_n 1, 1) := by decide +kernel
theorem dX1_figure_12 : decode cX1_figure 12 = .ok (.invokevirtual 56, 3) := by decide +kernel
theorem dX1_figure_15 : decode cX1_figure 15 = .ok (.aload_n 0, 1) := by decide +kernel
theorem dX1_figure_16 : decode cX1_figure 16 = .ok (.aload_n 1, 1) := by decide +kernel
theorem dX1_figure_17 : decode cX1_figure 17 = .ok (.invokevirtual 59, 3) := by decide +kernel
theorem dX1_figure_20 : decode cX1_figure 20 = .ok (.aload_n 0, 1) := by decide +kernel
theorem dX1_figure_21 : decode cX1_figure 21 = .ok (.aload_n 1, 1) := by decide +kernel
theorem dX1_figure_22 : decode cX1_figure 22 = .ok (.invokevirtual 62, 3) := by decide +kernel
theorem dX1_figure_25 : decode cX1_figure 25 = .ok (.aload_n 0, 1) := by decide +kernel
theorem dX1_figure_26 : decode cX1_figure 26 = .ok (.getfield 45, 3) := by decide +kernel
theorem dX1_figure_29 : decode cX1_figure 29 = .ok (.aload_n 1, 1) := by decide +kernel
theorem dX1_figure_30 : decode cX1_figure 30 = .ok (.aload_n 0, 1) := by decide +kernel
theorem dX1_figure_31 : decode cX1_figure 31 = .ok (.getfield 15, 3) := by decide +kernel
theorem dX1_figure_34 : decode cX1_figure 34 = .ok (.iconst (-1), 1) := by decide +kernel
theorem dX1_figure_35 : decode cX1_figure 35 = .ok (.invokevirtual 65, 3) := by decide +kernel
theorem dX1_figure_38 : decode cX1_figure 38 = .ok (.aload_n 0, 1) := by decide +kernel
theorem dX1_figure_39 : decode cX1_figure 39 = .ok (.aload_n 1, 1) := by decide +kernel
theorem dX1_figure_40 : decode cX1_figure 40 = .ok (.invokevirtual 69, 3) := by decide +kernel
theorem dX1_figure_43 : decode cX1_figure 43 = .ok (.aload_n 0, 1) := by decide +kernel
theorem dX1_figure_44 : decode cX1_figure 44 = .ok (.aload_n 1, 1) := by decide +kernel
theorem dX1_figure_45 : decode cX1_figure 45 = .ok (.invokevirtual 72, 3) := by decide +kernel
theorem dX1_figure_48 : decode cX1_figure 48 = .ok (.return_, 1) := by decide +kernel
theorem dX1_countEnds_0 : decode cX1_countEnds 0 = .ok (.aload_n 0, 1) := by decide +kernel
theorem dX1_countEnds_1 : decode cX1_countEnds 1 = .ok (.getfield 18, 3) := by decide +kernel
theorem dX1_countEnds_4 : decode cX1_countEnds 4 = .ok (.iconst 0, 1) := by decide +kernel
theorem dX1_countEnds_5 : decode cX1_countEnds 5 = .ok (.invokestatic 75, 3) := by decide +kernel
theorem dX1_countEnds_8 : decode cX1_countEnds 8 = .ok (.aload_n 0, 1) := by decide +kernel
theorem dX1_countEnds_9 : decode cX1_countEnds 9 = .ok (.getfield 21, 3) := by decide +kernel
theorem dX1_countEnds_12 : decode cX1_countEnds 12 = .ok (.iconst 0, 1) := by decide +kernel
theorem dX1_countEnds_13 : decode cX1_countEnds 13 = .ok (.invokestatic 75, 3) := by decide +kernel
theorem dX1_countEnds_16 : decode cX1_countEnds 16 = .ok (.iconst 0, 1) := by decide +kernel
theorem dX1_countEnds_17 : decode cX1_countEnds 17 = .ok (.istore_n 2, 1) := by decide +kernel
theorem dX1_countEnds_18 : decode cX1_countEnds 18 = .ok (.iload_n 2, 1) := by decide +kernel
theorem dX1_countEnds_19 : decode cX1_countEnds 19 = .ok (.aload_n 1, 1) := by decide +kernel
theorem dX1_countEnds_20 : decode cX1_countEnds 20 = .ok (.getfield 81, 3) := by decide +kernel
theorem dX1_countEnds_23 : decode cX1_countEnds 23 = .ok (.if_icmp .ge 39, 3) := by decide +kernel
theorem dX1_countEnds_26 : decode cX1_countEnds 26 = .ok (.aload_n 0, 1) := by decide +kernel
theorem dX1_countEnds_27 : decode cX1_countEnds 27 = .ok (.getfield 21, 3) := by decide +kernel
theorem dX1_countEnds_30 : decode cX1_countEnds 30 = .ok (.aload_n 1, 1) := by decide +kernel
theorem dX1_countEnds_31 : decode cX1_countEnds 31 = .ok (.getfield 87, 3) := by decide +kernel
theorem dX1_countEnds_34 : decode cX1_countEnds 34 = .ok (.iload_n 2, 1) := by decide +kernel
theorem dX1_countEnds_35 : decode cX1_countEnds 35 = .ok (.iaload, 1) := by decide +kernel
theorem dX1_countEnds_36 : decode cX1_countEnds 36 = .ok (.dup2, 1) := by decide +kernel
theorem dX1_countEnds_37 : decode cX1_countEnds 37 = .ok (.iaload, 1) := by decide +kernel
theorem dX1_countEnds_38 : decode cX1_countEnds 38 = .ok (.iconst 1, 1) := by decide +kernel
theorem dX1_countEnds_39 : decode cX1_countEnds 39 = .ok (.iadd, 1) := by decide +kernel
theorem dX1_countEnds_40 : decode cX1_countEnds 40 = .ok (.iastore, 1) := by decide +kernel
theorem dX1_countEnds_41 : decode cX1_countEnds 41 = .ok (.aload_n 0, 1) := by decide +kernel
theorem dX1_countEnds_42 : decode cX1_countEnds 42 = .ok (.getfield 18, 3) := by decide +kernel
theorem dX1_countEnds_45 : decode cX1_countEnds 45 = .ok (.aload_n 1, 1) := by decide +kernel
theorem dX1_countEnds_46 : decode cX1_countEnds 46 = .ok (.getfield 90, 3) := by decide +kernel
theorem dX1_countEnds_49 : decode cX1_countEnds 49 = .ok (.iload_n 2, 1) := by decide +kernel
theorem dX1_countEnds_50 : decode cX1_countEnds 50 = .ok (.iaload, 1) := by decide +kernel
theorem dX1_countEnds_51 : decode cX1_countEnds 51 = .ok (.dup2, 1) := by decide +kernel
theorem dX1_countEnds_52 : decode cX1_countEnds 52 = .ok (.iaload, 1) := by decide +kernel
theorem dX1_countEnds_53 : decode cX1_countEnds 53 = .ok (.iconst 1, 1) := by decide +kernel
theorem dX1_countEnds_54 : decode cX1_countEnds 54 = .ok (.iadd, 1) := by decide +kernel
theorem dX1_countEnds_55 : decode cX1_countEnds 55 = .ok (.iastore, 1) := by decide +kernel
theorem dX1_countEnds_56 : decode cX1_countEnds 56 = .ok (.iinc 2 1, 3) := by decide +kernel
theorem dX1_countEnds_59 : decode cX1_countEnds 59 = .ok (.goto (-41), 3) := by decide +kernel
theorem dX1_countEnds_62 : decode cX1_countEnds 62 = .ok (.aload_n 0, 1) := by decide +kernel
theorem dX1_countEnds_63 : decode cX1_countEnds 63 = .ok (.iconst 0, 1) := by decide +kernel
theorem dX1_countEnds_64 : decode cX1_countEnds 64 = .ok (.putfield 93, 3) := by decide +kernel
theorem dX1_countEnds_67 : decode cX1_countEnds 67 = .ok (.aload_n 0, 1) := by decide +kernel
theorem dX1_countEnds_68 : decode cX1_countEnds 68 = .ok (.iconst 0, 1) := by decide +kernel
theorem dX1_countEnds_69 : decode cX1_countEnds 69 = .ok (.putfield 96, 3) := by decide +kernel
theorem dX1_countEnds_72 : decode cX1_countEnds 72 = .ok (.iconst 0, 1) := by decide +kernel
theorem dX1_countEnds_73 : decode cX1_countEnds 73 = .ok (.istore_n 2, 1) := by decide +kernel
theorem dX1_countEnds_74 : decode cX1_countEnds 74 = .ok (.iload_n 2, 1) := by decide +kernel
theorem dX1_countEnds_75 : decode cX1_countEnds 75 = .ok (.aload_n 1, 1) := by decide +kernel
theorem dX1_countEnds_76 : decode cX1_countEnds 76 = .ok (.getfield 99, 3) := by decide +kernel
theorem dX1_countEnds_79 : decode cX1_countEnds 79 = .ok (.if_icmp .ge 69, 3) := by decide +kernel
theorem dX1_countEnds_82 : decode cX1_countEnds 82 = .ok (.aload_n 0, 1) := by decide +kernel
theorem dX1_countEnds_83 : decode cX1_countEnds 83 = .ok (.getfield 21, 3) := by decide +kernel
theorem dX1_countEnds_86 : decode cX1_countEnds 86 = .ok (.iload_n 2, 1) := by decide +kernel
theorem dX1_countEnds_87 : decode cX1_countEnds 87 = .ok (.iaload, 1) := by decide +kernel
theorem dX1_countEnds_88 : decode cX1_countEnds 88 = .ok (.ifCond .le 24, 3) := by decide +kernel
theorem dX1_countEnds_91 : decode cX1_countEnds 91 = .ok (.aload_n 0, 1) := by decide +kernel
theorem dX1_countEnds_92 : decode cX1_countEnds 92 = .ok (.getfield 18, 3) := by decide +kernel
theorem dX1_countEnds_95 : decode cX1_countEnds 95 = .ok (.iload_n 2, 1) := by decide +kernel
theorem dX1_countEnds_96 : decode cX1_countEnds 96 = .ok (.iaload, 1) := by decide +kernel
theorem dX1_countEnds_97 : decode cX1_countEnds 97 = .ok (.ifCond .ne 15, 3) := by decide +kernel
theorem dX1_countEnds_100 : decode cX1_countEnds 100 = .ok (.aload_n 0, 1) := by decide +kernel
theorem dX1_countEnds_101 : decode cX1_countEnds 101 = .ok (.dup, 1) := by decide +kernel
theorem dX1_countEnds_102 : decode cX1_countEnds 102 = .ok (.getfield 93, 3) := by decide +kernel
theorem dX1_countEnds_105 : decode cX1_countEnds 105 = .ok (.iconst 1, 1) := by decide +kernel
theorem dX1_countEnds_106 : decode cX1_countEnds 106 = .ok (.iload_n 2, 1) := by decide +kernel
theorem dX1_countEnds_107 : decode cX1_countEnds 107 = .ok (.ishl, 1) := by decide +kernel
theorem dX1_countEnds_108 : decode cX1_countEnds 108 = .ok (.ior, 1) := by decide +kernel
theorem dX1_countEnds_109 : decode cX1_countEnds 109 = .ok (.putfield 93, 3) := by decide +kernel
theorem dX1_countEnds_112 : decode cX1_countEnds 112 = .ok (.aload_n 0, 1) := by decide +kernel
theorem dX1_countEnds_113 : decode cX1_countEnds 113 = .ok (.getfield 18, 3) := by decide +kernel
theorem dX1_countEnds_116 : decode cX1_countEnds 116 = .ok (.iload_n 2, 1) := by decide +kernel
theorem dX1_countEnds_117 : decode cX1_countEnds 117 = .ok (.iaload, 1) := by decide +kernel
theorem dX1_countEnds_118 : decode cX1_countEnds 118 = .ok (.ifCond .le 24, 3) := by decide +kernel
theorem dX1_countEnds_121 : decode cX1_countEnds 121 = .ok (.aload_n 0, 1) := by decide +kernel
theorem dX1_countEnds_122 : decode cX1_countEnds 122 = .ok (.getfield 21, 3) := by decide +kernel
theorem dX1_countEnds_125 : decode cX1_countEnds 125 = .ok (.iload_n 2, 1) := by decide +kernel
theorem dX1_countEnds_126 : decode cX1_countEnds 126 = .ok (.iaload, 1) := by decide +kernel
theorem dX1_countEnds_127 : decode cX1_countEnds 127 = .ok (.ifCond .ne 15, 3) := by decide +kernel
theorem dX1_countEnds_130 : decode cX1_countEnds 130 = .ok (.aload_n 0, 1) := by decide +kernel
theorem dX1_countEnds_131 : decode cX1_countEnds 131 = .ok (.dup, 1) := by decide +kernel
theorem dX1_countEnds_132 : decode cX1_countEnds 132 = .ok (.getfield 96, 3) := by decide +kernel
theorem dX1_countEnds_135 : decode cX1_countEnds 135 = .ok (.iconst 1, 1) := by decide +kernel
theorem dX1_countEnds_136 : decode cX1_countEnds 136 = .ok (.iload_n 2, 1) := by decide +kernel
theorem dX1_countEnds_137 : decode cX1_countEnds 137 = .ok (.ishl, 1) := by decide +kernel
theorem dX1_countEnds_138 : decode cX1_countEnds 138 = .ok (.ior, 1) := by decide +kernel
theorem dX1_countEnds_139 : decode cX1_countEnds 139 = .ok (.putfield 96, 3) := by decide +kernel
theorem dX1_countEnds_142 : decode cX1_countEnds 142 = .ok (.iinc 2 1, 3) := by decide +kernel
theorem dX1_countEnds_145 : decode cX1_countEnds 145 = .ok (.goto (-71), 3) := by decide +kernel
theorem dX1_countEnds_148 : decode cX1_countEnds 148 = .ok (.return_, 1) := by decide +kernel
theorem dX1_sortPlaces_0 : decode cX1_sortPlaces 0 = .ok (.aload_n 0, 1) := by decide +kernel
theorem dX1_sortPlaces_1 : decode cX1_sortPlaces 1 = .ok (.getfield 24, 3) := by decide +kernel
theorem dX1_sortPlaces_4 : decode cX1_sortPlaces 4 = .ok (.iconst 0, 1) := by decide +kernel
theorem dX1_sortPlaces_5 : decode cX1_sortPlaces 5 = .ok (.invokestatic 75, 3) := by decide +kernel
theorem dX1_sortPlaces_8 : decode cX1_sortPlaces 8 = .ok (.iconst 0, 1) := by decide +kernel
theorem dX1_sortPlaces_9 : decode cX1_sortPlaces 9 = .ok (.istore_n 2, 1) := by decide +kernel
theorem dX1_sortPlaces_10 : decode cX1_sortPlaces 10 = .ok (.iload_n 2, 1) := by decide +kernel
theorem dX1_sortPlaces_11 : decode cX1_sortPlaces 11 = .ok (.aload_n 1, 1) := by decide +kernel
theorem dX1_sortPlaces_12 : decode cX1_sortPlaces 12 = .ok (.getfield 81, 3) := by decide +kernel
theorem dX1_sortPlaces_15 : decode cX1_sortPlaces 15 = .ok (.if_icmp .ge 31, 3) := by decide +kernel
theorem dX1_sortPlaces_18 : decode cX1_sortPlaces 18 = .ok (.aload_n 0, 1) := by decide +kernel
theorem dX1_sortPlaces_19 : decode cX1_sortPlaces 19 = .ok (.getfield 24, 3) := by decide +kernel
theorem dX1_sortPlaces_22 : decode cX1_sortPlaces 22 = .ok (.aload_n 1, 1) := by decide +kernel
theorem dX1_sortPlaces_23 : decode cX1_sortPlaces 23 = .ok (.getfield 90, 3) := by decide +kernel
theorem dX1_sortPlaces_26 : decode cX1_sortPlaces 26 = .ok (.iload_n 2, 1) := by decide +kernel
theorem dX1_sortPlaces_27 : decode cX1_sortPlaces 27 = .ok (.iaload, 1) := by decide +kernel
theorem dX1_sortPlaces_28 : decode cX1_sortPlaces 28 = .ok (.dup2, 1) := by decide +kernel
theorem dX1_sortPlaces_29 : decode cX1_sortPlaces 29 = .ok (.iaload, 1) := by decide +kernel
theorem dX1_sortPlaces_30 : decode cX1_sortPlaces 30 = .ok (.iconst 1, 1) := by decide +kernel
theorem dX1_sortPlaces_31 : decode cX1_sortPlaces 31 = .ok (.aload_n 1, 1) := by decide +kernel
theorem dX1_sortPlaces_32 : decode cX1_sortPlaces 32 = .ok (.getfield 87, 3) := by decide +kernel
theorem dX1_sortPlaces_35 : decode cX1_sortPlaces 35 = .ok (.iload_n 2, 1) := by decide +kernel
theorem dX1_sortPlaces_36 : decode cX1_sortPlaces 36 = .ok (.iaload, 1) := by decide +kernel
theorem dX1_sortPlaces_37 : decode cX1_sortPlaces 37 = .ok (.ishl, 1) := by decide +kernel
theorem dX1_sortPlaces_38 : decode cX1_sortPlaces 38 = .ok (.ior, 1) := by decide +kernel
theorem dX1_sortPlaces_39 : decode cX1_sortPlaces 39 = .ok (.iastore, 1) := by decide +kernel
theorem dX1_sortPlaces_40 : decode cX1_sortPlaces 40 = .ok (.iinc 2 1, 3) := by decide +kernel
theorem dX1_sortPlaces_43 : decode cX1_sortPlaces 43 = .ok (.goto (-33), 3) := by decide +kernel
theorem dX1_sortPlaces_46 : decode cX1_sortPlaces 46 = .ok (.iconst 0, 1) := by decide +kernel
theorem dX1_sortPlaces_47 : decode cX1_sortPlaces 47 = .ok (.istore_n 2, 1) := by decide +kernel
theorem dX1_sortPlaces_48 : decode cX1_sortPlaces 48 = .ok (.iconst 0, 1) := by decide +kernel
theorem dX1_sortPlaces_49 : decode cX1_sortPlaces 49 = .ok (.istore_n 3, 1) := by decide +kernel
theorem dX1_sortPlaces_50 : decode cX1_sortPlaces 50 = .ok (.iload_n 3, 1) := by decide +kernel
theorem dX1_sortPlaces_51 : decode cX1_sortPlaces 51 = .ok (.aload_n 1, 1) := by decide +kernel
theorem dX1_sortPlaces_52 : decode cX1_sortPlaces 52 = .ok (.getfield 99, 3) := by decide +kernel
theorem dX1_sortPlaces_55 : decode cX1_sortPlaces 55 = .ok (.if_icmp .ge 75, 3) := by decide +kernel
theorem dX1_sortPlaces_58 : decode cX1_sortPlaces 58 = .ok (.iconst 0, 1) := by decide +kernel
theorem dX1_sortPlaces_59 : decode cX1_sortPlaces 59 = .ok (.istore 4, 2) := by decide +kernel
theorem dX1_sortPlaces_61 : decode cX1_sortPlaces 61 = .ok (.iconst 0, 1) := by decide +kernel
theorem dX1_sortPlaces_62 : decode cX1_sortPlaces 62 = .ok (.istore 5, 2) := by decide +kernel
theorem dX1_sortPlaces_64 : decode cX1_sortPlaces 64 = .ok (.iload 5, 2) := by decide +kernel
theorem dX1_sortPlaces_66 : decode cX1_sortPlaces 66 = .ok (.aload_n 1, 1) := by decide +kernel
theorem dX1_sortPlaces_67 : decode cX1_sortPlaces 67 = .ok (.getfield 99, 3) := by decide +kernel
theorem dX1_sortPlaces_70 : decode cX1_sortPlaces 70 = .ok (.if_icmp .ge 39, 3) := by decide +kernel
theorem dX1_sortPlaces_73 : decode cX1_sortPlaces 73 = .ok (.iload_n 2, 1) := by decide +kernel
theorem dX1_sortPlaces_74 : decode cX1_sortPlaces 74 = .ok (.iload 5, 2) := by decide +kernel
theorem dX1_sortPlaces_76 : decode cX1_sortPlaces 76 = .ok (.ishr, 1) := by decide +kernel
theorem dX1_sortPlaces_77 : decode cX1_sortPlaces 77 = .ok (.iconst 1, 1) := by decide +kernel
theorem dX1_sortPlaces_78 : decode cX1_sortPlaces 78 = .ok (.iand, 1) := by decide +kernel
theorem dX1_sortPlaces_79 : decode cX1_sortPlaces 79 = .ok (.ifCond .ne 24, 3) := by decide +kernel
theorem dX1_sortPlaces_82 : decode cX1_sortPlaces 82 = .ok (.aload_n 0, 1) := by decide +kernel
theorem dX1_sortPlaces_83 : decode cX1_sortPlaces 83 = .ok (.getfield 24, 3) := by decide +kernel
theorem dX1_sortPlaces_86 : decode cX1_sortPlaces 86 = .ok (.iload 5, 2) := by decide +kernel
theorem dX1_sortPlaces_88 : decode cX1_sortPlaces 88 = .ok (.iaload, 1) := by decide +kernel
theorem dX1_sortPlaces_89 : decode cX1_sortPlaces 89 = .ok (.iload_n 2, 1) := by decide +kernel
theorem dX1_sortPlaces_90 : decode cX1_sortPlaces 90 = .ok (.iconst (-1), 1) := by decide +kernel
theorem dX1_sortPlaces_91 : decode cX1_sortPlaces 91 = .ok (.ixor, 1) := by decide +kernel
theorem dX1_sortPlaces_92 : decode cX1_sortPlaces 92 = .ok (.iand, 1) := by decide +kernel
theorem dX1_sortPlaces_93 : decode cX1_sortPlaces 93 = .ok (.ifCond .ne 10, 3) := by decide +kernel
theorem dX1_sortPlaces_96 : decode cX1_sortPlaces 96 = .ok (.iload 5, 2) := by decide +kernel
theorem dX1_sortPlaces_98 : decode cX1_sortPlaces 98 = .ok (.istore 4, 2) := by decide +kernel
theorem dX1_sortPlaces_100 : decode cX1_sortPlaces 100 = .ok (.goto 9, 3) := by decide +kernel
theorem dX1_sortPlaces_103 : decode cX1_sortPlaces 103 = .ok (.iinc 5 1, 3) := by decide +kernel
theorem dX1_sortPlaces_106 : decode cX1_sortPlaces 106 = .ok (.goto (-42), 3) := by decide +kernel
theorem dX1_sortPlaces_109 : decode cX1_sortPlaces 109 = .ok (.aload_n 0, 1) := by decide +kernel
theorem dX1_sortPlaces_110 : decode cX1_sortPlaces 110 = .ok (.getfield 9, 3) := by decide +kernel
theorem dX1_sortPlaces_113 : decode cX1_sortPlaces 113 = .ok (.iload_n 3, 1) := by decide +kernel
theorem dX1_sortPlaces_114 : decode cX1_sortPlaces 114 = .ok (.iload 4, 2) := by decide +kernel
theorem dX1_sortPlaces_116 : decode cX1_sortPlaces 116 = .ok (.iastore, 1) := by decide +kernel
theorem dX1_sortPlaces_117 : decode cX1_sortPlaces 117 = .ok (.iload_n 2, 1) := by decide +kernel
theorem dX1_sortPlaces_118 : decode cX1_sortPlaces 118 = .ok (.iconst 1, 1) := by decide +kernel
theorem dX1_sortPlaces_119 : decode cX1_sortPlaces 119 = .ok (.iload 4, 2) := by decide +kernel
theorem dX1_sortPlaces_121 : decode cX1_sortPlaces 121 = .ok (.ishl, 1) := by decide +kernel
theorem dX1_sortPlaces_122 : decode cX1_sortPlaces 122 = .ok (.ior, 1) := by decide +kernel
theorem dX1_sortPlaces_123 : decode cX1_sortPlaces 123 = .ok (.istore_n 2, 1) := by decide +kernel
theorem dX1_sortPlaces_124 : decode cX1_sortPlaces 124 = .ok (.iinc 3 1, 3) := by decide +kernel
theorem dX1_sortPlaces_127 : decode cX1_sortPlaces 127 = .ok (.goto (-77), 3) := by decide +kernel
theorem dX1_sortPlaces_130 : decode cX1_sortPlaces 130 = .ok (.return_, 1) := by decide +kernel
theorem dX1_sortReaches_0 : decode cX1_sortReaches 0 = .ok (.iconst 0, 1) := by decide +kernel
theorem dX1_sortReaches_1 : decode cX1_sortReaches 1 = .ok (.istore_n 2, 1) := by decide +kernel
theorem dX1_sortReaches_2 : decode cX1_sortReaches 2 = .ok (.iconst 0, 1) := by decide +kernel
theorem dX1_sortReaches_3 : decode cX1_sortReaches 3 = .ok (.istore_n 3, 1) := by decide +kernel
theorem dX1_sortReaches_4 : decode cX1_sortReaches 4 = .ok (.iload_n 3, 1) := by decide +kernel
theorem dX1_sortReaches_5 : decode cX1_sortReaches 5 = .ok (.aload_n 1, 1) := by decide +kernel
theorem dX1_sortReaches_6 : decode cX1_sortReaches 6 = .ok (.getfield 99, 3) := by decide +kernel
theorem dX1_sortReaches_9 : decode cX1_sortReaches 9 = .ok (.if_icmp .ge 60, 3) := by decide +kernel
theorem dX1_sortReaches_12 : decode cX1_sortReaches 12 = .ok (.iconst 0, 1) := by decide +kernel
theorem dX1_sortReaches_13 : decode cX1_sortReaches 13 = .ok (.istore 4, 2) := by decide +kernel
theorem dX1_sortReaches_15 : decode cX1_sortReaches 15 = .ok (.iload 4, 2) := by decide +kernel
theorem dX1_sortReaches_17 : decode cX1_sortReaches 17 = .ok (.aload_n 1, 1) := by decide +kernel
theorem dX1_sortReaches_18 : decode cX1_sortReaches 18 = .ok (.getfield 81, 3) := by decide +kernel
theorem dX1_sortReaches_21 : decode cX1_sortReaches 21 = .ok (.if_icmp .ge 42, 3) := by decide +kernel
theorem dX1_sortReaches_24 : decode cX1_sortReaches 24 = .ok (.aload_n 1, 1) := by decide +kernel
theorem dX1_sortReaches_25 : decode cX1_sortReaches 25 = .ok (.getfield 87, 3) := by decide +kernel
theorem dX1_sortReaches_28 : decode cX1_sortReaches 28 = .ok (.iload 4, 2) := by decide +kernel
theorem dX1_sortReaches_30 : decode cX1_sortReaches 30 = .ok (.iaload, 1) := by decide +kernel
theorem dX1_sortReaches_31 : decode cX1_sortReaches 31 = .ok (.aload_n 0, 1) := by decide +kernel
theorem dX1_sortReaches_32 : decode cX1_sortReaches 32 = .ok (.getfield 9, 3) := by decide +kernel
theorem dX1_sortReaches_35 : decode cX1_sortReaches 35 = .ok (.iload_n 3, 1) := by decide +kernel
theorem dX1_sortReaches_36 : decode cX1_sortReaches 36 = .ok (.iaload, 1) := by decide +kernel
theorem dX1_sortReaches_37 : decode cX1_sortReaches 37 = .ok (.if_icmp .ne 20, 3) := by decide +kernel
theorem dX1_sortReaches_40 : decode cX1_sortReaches 40 = .ok (.iload_n 2, 1) := by decide +kernel
theorem dX1_sortReaches_41 : decode cX1_sortReaches 41 = .ok (.bipush 30, 2) := by decide +kernel
theorem dX1_sortReaches_43 : decode cX1_sortReaches 43 = .ok (.if_icmp .ge 14, 3) := by decide +kernel
theorem dX1_sortReaches_46 : decode cX1_sortReaches 46 = .ok (.aload_n 0, 1) := by decide +kernel
theorem dX1_sortReaches_47 : decode cX1_sortReaches 47 = .ok (.getfield 15, 3) := by decide +kernel
theorem dX1_sortReaches_50 : decode cX1_sortReaches 50 = .ok (.iload_n 2, 1) := by decide +kernel
theorem dX1_sortReaches_51 : decode cX1_sortReaches 51 = .ok (.iload 4, 2) := by decide +kernel
theorem dX1_sortReaches_53 : decode cX1_sortReaches 53 = .ok (.iastore, 1) := by decide +kernel
theorem dX1_sortReaches_54 : decode cX1_sortReaches 54 = .ok (.iinc 2 1, 3) := by decide +kernel
theorem dX1_sortReaches_57 : decode cX1_sortReaches 57 = .ok (.iinc 4 1, 3) := by decide +kernel
theorem dX1_sortReaches_60 : decode cX1_sortReaches 60 = .ok (.goto (-45), 3) := by decide +kernel
theorem dX1_sortReaches_63 : decode cX1_sortReaches 63 = .ok (.iinc 3 1, 3) := by decide +kernel
theorem dX1_sortReaches_66 : decode cX1_sortReaches 66 = .ok (.goto (-62), 3) := by decide +kernel
theorem dX1_sortReaches_69 : decode cX1_sortReaches 69 = .ok (.return_, 1) := by decide +kernel
theorem dX1_lookUp_0 : decode cX1_lookUp 0 = .ok (.aload_n 0, 1) := by decide +kernel
theorem dX1_lookUp_1 : decode cX1_lookUp 1 = .ok (.getfield 24, 3) := by decide +kernel
theorem dX1_lookUp_4 : decode cX1_lookUp 4 = .ok (.iconst 0, 1) := by decide +kernel
theorem dX1_lookUp_5 : decode cX1_lookUp 5 = .ok (.invokestatic 75, 3) := by decide +kernel
theorem dX1_lookUp_8 : decode cX1_lookUp 8 = .ok (.aload_n 0, 1) := by decide +kernel
theorem dX1_lookUp_9 : decode cX1_lookUp 9 = .ok (.getfield 30, 3) := by decide +kernel
theorem dX1_lookUp_12 : decode cX1_lookUp 12 = .ok (.iconst 0, 1) := by decide +kernel
theorem dX1_lookUp_13 : decode cX1_lookUp 13 = .ok (.invokestatic 75, 3) := by decide +kernel
theorem dX1_lookUp_16 : decode cX1_lookUp 16 = .ok (.iconst 0, 1) := by decide +kernel
theorem dX1_lookUp_17 : decode cX1_lookUp 17 = .ok (.istore_n 2, 1) := by decide +kernel
theorem dX1_lookUp_18 : decode cX1_lookUp 18 = .ok (.iload_n 2, 1) := by decide +kernel
theorem dX1_lookUp_19 : decode cX1_lookUp 19 = .ok (.aload_n 1, 1) := by decide +kernel
theorem dX1_lookUp_20 : decode cX1_lookUp 20 = .ok (.getfield 81, 3) := by decide +kernel
theorem dX1_lookUp_23 : decode cX1_lookUp 23 = .ok (.if_icmp .ge 85, 3) := by decide +kernel
theorem dX1_lookUp_26 : decode cX1_lookUp 26 = .ok (.aload_n 0, 1) := by decide +kernel
theorem dX1_lookUp_27 : decode cX1_lookUp 27 = .ok (.getfield 15, 3) := by decide +kernel
theorem dX1_lookUp_30 : decode cX1_lookUp 30 = .ok (.iload_n 2, 1) := by decide +kernel
theorem dX1_lookUp_31 : decode cX1_lookUp 31 = .ok (.iaload, 1) := by decide +kernel
theorem dX1_lookUp_32 : decode cX1_lookUp 32 = .ok (.istore_n 3, 1) := by decide +kernel
theorem dX1_lookUp_33 : decode cX1_lookUp 33 = .ok (.aload_n 1, 1) := by decide +kernel
theorem dX1_lookUp_34 : decode cX1_lookUp 34 = .ok (.getfield 87, 3) := by decide +kernel
theorem dX1_lookUp_37 : decode cX1_lookUp 37 = .ok (.iload_n 3, 1) := by decide +kernel
theorem dX1_lookUp_38 : decode cX1_lookUp 38 = .ok (.iaload, 1) := by decide +kernel
theorem dX1_lookUp_39 : decode cX1_lookUp 39 = .ok (.istore 4, 2) := by decide +kernel
theorem dX1_lookUp_41 : decode cX1_lookUp 41 = .ok (.aload_n 1, 1) := by decide +kernel
theorem dX1_lookUp_42 : decode cX1_lookUp 42 = .ok (.getfield 90, 3) := by decide +kernel
theorem dX1_lookUp_45 : decode cX1_lookUp 45 = .ok (.iload_n 3, 1) := by decide +kernel
theorem dX1_lookUp_46 : decode cX1_lookUp 46 = .ok (.iaload, 1) := by decide +kernel
theorem dX1_lookUp_47 : decode cX1_lookUp 47 = .ok (.istore 5, 2) := by decide +kernel
theorem dX1_lookUp_49 : decode cX1_lookUp 49 = .ok (.aload_n 0, 1) := by decide +kernel
theorem dX1_lookUp_50 : decode cX1_lookUp 50 = .ok (.getfield 24, 3) := by decide +kernel
theorem dX1_lookUp_53 : decode cX1_lookUp 53 = .ok (.iload 5, 2) := by decide +kernel
theorem dX1_lookUp_55 : decode cX1_lookUp 55 = .ok (.dup2, 1) := by decide +kernel
theorem dX1_lookUp_56 : decode cX1_lookUp 56 = .ok (.iaload, 1) := by decide +kernel
theorem dX1_lookUp_57 : decode cX1_lookUp 57 = .ok (.aload_n 0, 1) := by decide +kernel
theorem dX1_lookUp_58 : decode cX1_lookUp 58 = .ok (.getfield 24, 3) := by decide +kernel
theorem dX1_lookUp_61 : decode cX1_lookUp 61 = .ok (.iload 4, 2) := by decide +kernel
theorem dX1_lookUp_63 : decode cX1_lookUp 63 = .ok (.iaload, 1) := by decide +kernel
theorem dX1_lookUp_64 : decode cX1_lookUp 64 = .ok (.iconst 1, 1) := by decide +kernel
theorem dX1_lookUp_65 : decode cX1_lookUp 65 = .ok (.iload 4, 2) := by decide +kernel
theorem dX1_lookUp_67 : decode cX1_lookUp 67 = .ok (.ishl, 1) := by decide +kernel
theorem dX1_lookUp_68 : decode cX1_lookUp 68 = .ok (.ior, 1) := by decide +kernel
theorem dX1_lookUp_69 : decode cX1_lookUp 69 = .ok (.ior, 1) := by decide +kernel
theorem dX1_lookUp_70 : decode cX1_lookUp 70 = .ok (.iastore, 1) := by decide +kernel
theorem dX1_lookUp_71 : decode cX1_lookUp 71 = .ok (.aload_n 0, 1) := by decide +kernel
theorem dX1_lookUp_72 : decode cX1_lookUp 72 = .ok (.getfield 30, 3) := by decide +kernel
theorem dX1_lookUp_75 : decode cX1_lookUp 75 = .ok (.iload 5, 2) := by decide +kernel
theorem dX1_lookUp_77 : decode cX1_lookUp 77 = .ok (.aload_n 0, 1) := by decide +kernel
theorem dX1_lookUp_78 : decode cX1_lookUp 78 = .ok (.getfield 30, 3) := by decide +kernel
theorem dX1_lookUp_81 : decode cX1_lookUp 81 = .ok (.iload 5, 2) := by decide +kernel
theorem dX1_lookUp_83 : decode cX1_lookUp 83 = .ok (.iaload, 1) := by decide +kernel
theorem dX1_lookUp_84 : decode cX1_lookUp 84 = .ok (.aload_n 0, 1) := by decide +kernel
theorem dX1_lookUp_85 : decode cX1_lookUp 85 = .ok (.getfield 30, 3) := by decide +kernel
theorem dX1_lookUp_88 : decode cX1_lookUp 88 = .ok (.iload 4, 2) := by decide +kernel
theorem dX1_lookUp_90 : decode cX1_lookUp 90 = .ok (.iaload, 1) := by decide +kernel
theorem dX1_lookUp_91 : decode cX1_lookUp 91 = .ok (.aload_n 1, 1) := by decide +kernel
theorem dX1_lookUp_92 : decode cX1_lookUp 92 = .ok (.getfield 102, 3) := by decide +kernel
theorem dX1_lookUp_95 : decode cX1_lookUp 95 = .ok (.iload_n 3, 1) := by decide +kernel
theorem dX1_lookUp_96 : decode cX1_lookUp 96 = .ok (.iaload, 1) := by decide +kernel
theorem dX1_lookUp_97 : decode cX1_lookUp 97 = .ok (.iadd, 1) := by decide +kernel
theorem dX1_lookUp_98 : decode cX1_lookUp 98 = .ok (.invokestatic 105, 3) := by decide +kernel
theorem dX1_lookUp_101 : decode cX1_lookUp 101 = .ok (.iastore, 1) := by decide +kernel
theorem dX1_lookUp_102 : decode cX1_lookUp 102 = .ok (.iinc 2 1, 3) := by decide +kernel
theorem dX1_lookUp_105 : decode cX1_lookUp 105 = .ok (.goto (-87), 3) := by decide +kernel
theorem dX1_lookUp_108 : decode cX1_lookUp 108 = .ok (.return_, 1) := by decide +kernel
theorem dX1_lookDown_0 : decode cX1_lookDown 0 = .ok (.aload_n 0, 1) := by decide +kernel
theorem dX1_lookDown_1 : decode cX1_lookDown 1 = .ok (.getfield 27, 3) := by decide +kernel
theorem dX1_lookDown_4 : decode cX1_lookDown 4 = .ok (.iconst 0, 1) := by decide +kernel
theorem dX1_lookDown_5 : decode cX1_lookDown 5 = .ok (.invokestatic 75, 3) := by decide +kernel
theorem dX1_lookDown_8 : decode cX1_lookDown 8 = .ok (.aload_n 0, 1) := by decide +kernel
theorem dX1_lookDown_9 : decode cX1_lookDown 9 = .ok (.getfield 33, 3) := by decide +kernel
theorem dX1_lookDown_12 : decode cX1_lookDown 12 = .ok (.iconst 0, 1) := by decide +kernel
theorem dX1_lookDown_13 : decode cX1_lookDown 13 = .ok (.invokestatic 75, 3) := by decide +kernel
theorem dX1_lookDown_16 : decode cX1_lookDown 16 = .ok (.aload_n 1, 1) := by decide +kernel
theorem dX1_lookDown_17 : decode cX1_lookDown 17 = .ok (.getfield 81, 3) := by decide +kernel
theorem dX1_lookDown_20 : decode cX1_lookDown 20 = .ok (.iconst 1, 1) := by decide +kernel
theorem dX1_lookDown_21 : decode cX1_lookDown 21 = .ok (.isub, 1) := by decide +kernel
theorem dX1_lookDown_22 : decode cX1_lookDown 22 = .ok (.istore_n 2, 1) := by decide +kernel
theorem dX1_lookDown_23 : decode cX1_lookDown 23 = .ok (.iload_n 2, 1) := by decide +kernel
theorem dX1_lookDown_24 : decode cX1_lookDown 24 = .ok (.ifCond .lt 85, 3) := by decide +kernel
theorem dX1_lookDown_27 : decode cX1_lookDown 27 = .ok (.aload_n 0, 1) := by decide +kernel
theorem dX1_lookDown_28 : decode cX1_lookDown 28 = .ok (.getfield 15, 3) := by decide +kernel
theorem dX1_lookDown_31 : decode cX1_lookDown 31 = .ok (.iload_n 2, 1) := by decide +kernel
theorem dX1_lookDown_32 : decode cX1_lookDown 32 = .ok (.iaload, 1) := by decide +kernel
theorem dX1_lookDown_33 : decode cX1_lookDown 33 = .ok (.istore_n 3, 1) := by decide +kernel
theorem dX1_lookDown_34 : decode cX1_lookDown 34 = .ok (.aload_n 1, 1) := by decide +kernel
theorem dX1_lookDown_35 : decode cX1_lookDown 35 = .ok (.getfield 87, 3) := by decide +kernel
theorem dX1_lookDown_38 : decode cX1_lookDown 38 = .ok (.iload_n 3, 1) := by decide +kernel
theorem dX1_lookDown_39 : decode cX1_lookDown 39 = .ok (.iaload, 1) := by decide +kernel
theorem dX1_lookDown_40 : decode cX1_lookDown 40 = .ok (.istore 4, 2) := by decide +kernel
theorem dX1_lookDown_42 : decode cX1_lookDown 42 = .ok (.aload_n 1, 1) := by decide +kernel
theorem dX1_lookDown_43 : decode cX1_lookDown 43 = .ok (.getfield 90, 3) := by decide +kernel
theorem dX1_lookDown_46 : decode cX1_lookDown 46 = .ok (.iload_n 3, 1) := by decide +kernel
theorem dX1_lookDown_47 : decode cX1_lookDown 47 = .ok (.iaload, 1) := by decide +kernel
theorem dX1_lookDown_48 : decode cX1_lookDown 48 = .ok (.istore 5, 2) := by decide +kernel
theorem dX1_lookDown_50 : decode cX1_lookDown 50 = .ok (.aload_n 0, 1) := by decide +kernel
theorem dX1_lookDown_51 : decode cX1_lookDown 51 = .ok (.getfield 27, 3) := by decide +kernel
theorem dX1_lookDown_54 : decode cX1_lookDown 54 = .ok (.iload 4, 2) := by decide +kernel
theorem dX1_lookDown_56 : decode cX1_lookDown 56 = .ok (.dup2, 1) := by decide +kernel
theorem dX1_lookDown_57 : decode cX1_lookDown 57 = .ok (.iaload, 1) := by decide +kernel
theorem dX1_lookDown_58 : decode cX1_lookDown 58 = .ok (.aload_n 0, 1) := by decide +kernel
theorem dX1_lookDown_59 : decode cX1_lookDown 59 = .ok (.getfield 27, 3) := by decide +kernel
theorem dX1_lookDown_62 : decode cX1_lookDown 62 = .ok (.iload 5, 2) := by decide +kernel
theorem dX1_lookDown_64 : decode cX1_lookDown 64 = .ok (.iaload, 1) := by decide +kernel
theorem dX1_lookDown_65 : decode cX1_lookDown 65 = .ok (.iconst 1, 1) := by decide +kernel
theorem dX1_lookDown_66 : decode cX1_lookDown 66 = .ok (.iload 5, 2) := by decide +kernel
theorem dX1_lookDown_68 : decode cX1_lookDown 68 = .ok (.ishl, 1) := by decide +kernel
theorem dX1_lookDown_69 : decode cX1_lookDown 69 = .ok (.ior, 1) := by decide +kernel
theorem dX1_lookDown_70 : decode cX1_lookDown 70 = .ok (.ior, 1) := by decide +kernel
theorem dX1_lookDown_71 : decode cX1_lookDown 71 = .ok (.iastore, 1) := by decide +kernel
theorem dX1_lookDown_72 : decode cX1_lookDown 72 = .ok (.aload_n 0, 1) := by decide +kernel
theorem dX1_lookDown_73 : decode cX1_lookDown 73 = .ok (.getfield 33, 3) := by decide +kernel
theorem dX1_lookDown_76 : decode cX1_lookDown 76 = .ok (.iload 4, 2) := by decide +kernel
theorem dX1_lookDown_78 : decode cX1_lookDown 78 = .ok (.aload_n 0, 1) := by decide +kernel
theorem dX1_lookDown_79 : decode cX1_lookDown 79 = .ok (.getfield 33, 3) := by decide +kernel
theorem dX1_lookDown_82 : decode cX1_lookDown 82 = .ok (.iload 4, 2) := by decide +kernel
theorem dX1_lookDown_84 : decode cX1_lookDown 84 = .ok (.iaload, 1) := by decide +kernel
theorem dX1_lookDown_85 : decode cX1_lookDown 85 = .ok (.aload_n 0, 1) := by decide +kernel
theorem dX1_lookDown_86 : decode cX1_lookDown 86 = .ok (.getfield 33, 3) := by decide +kernel
theorem dX1_lookDown_89 : decode cX1_lookDown 89 = .ok (.iload 5, 2) := by decide +kernel
theorem dX1_lookDown_91 : decode cX1_lookDown 91 = .ok (.iaload, 1) := by decide +kernel
theorem dX1_lookDown_92 : decode cX1_lookDown 92 = .ok (.aload_n 1, 1) := by decide +kernel
theorem dX1_lookDown_93 : decode cX1_lookDown 93 = .ok (.getfield 102, 3) := by decide +kernel
theorem dX1_lookDown_96 : decode cX1_lookDown 96 = .ok (.iload_n 3, 1) := by decide +kernel
theorem dX1_lookDown_97 : decode cX1_lookDown 97 = .ok (.iaload, 1) := by decide +kernel
theorem dX1_lookDown_98 : decode cX1_lookDown 98 = .ok (.iadd, 1) := by decide +kernel
theorem dX1_lookDown_99 : decode cX1_lookDown 99 = .ok (.invokestatic 105, 3) := by decide +kernel
theorem dX1_lookDown_102 : decode cX1_lookDown 102 = .ok (.iastore, 1) := by decide +kernel
theorem dX1_lookDown_103 : decode cX1_lookDown 103 = .ok (.iinc 2 (-1), 3) := by decide +kernel
theorem dX1_lookDown_106 : decode cX1_lookDown 106 = .ok (.goto (-83), 3) := by decide +kernel
theorem dX1_lookDown_109 : decode cX1_lookDown 109 = .ok (.return_, 1) := by decide +kernel
theorem dX1_findSprings_0 : decode cX1_findSprings 0 = .ok (.iconst 0, 1) := by decide +kernel
theorem dX1_findSprings_1 : decode cX1_findSprings 1 = .ok (.istore_n 2, 1) := by decide +kernel
theorem dX1_findSprings_2 : decode cX1_findSprings 2 = .ok (.iload_n 2, 1) := by decide +kernel
theorem dX1_findSprings_3 : decode cX1_findSprings 3 = .ok (.aload_n 1, 1) := by decide +kernel
theorem dX1_findSprings_4 : decode cX1_findSprings 4 = .ok (.getfield 81, 3) := by decide +kernel
theorem dX1_findSprings_7 : decode cX1_findSprings 7 = .ok (.if_icmp .ge 37, 3) := by decide +kernel
theorem dX1_findSprings_10 : decode cX1_findSprings 10 = .ok (.aload_n 1, 1) := by decide +kernel
theorem dX1_findSprings_11 : decode cX1_findSprings 11 = .ok (.getfield 87, 3) := by decide +kernel
theorem dX1_findSprings_14 : decode cX1_findSprings 14 = .ok (.iload_n 2, 1) := by decide +kernel
theorem dX1_findSprings_15 : decode cX1_findSprings 15 = .ok (.iaload, 1) := by decide +kernel
theorem dX1_findSprings_16 : decode cX1_findSprings 16 = .ok (.istore_n 3, 1) := by decide +kernel
theorem dX1_findSprings_17 : decode cX1_findSprings 17 = .ok (.aload_n 0, 1) := by decide +kernel
theorem dX1_findSprings_18 : decode cX1_findSprings 18 = .ok (.getfield 36, 3) := by decide +kernel
theorem dX1_findSprings_21 : decode cX1_findSprings 21 = .ok (.iload_n 2, 1) := by decide +kernel
theorem dX1_findSprings_22 : decode cX1_findSprings 22 = .ok (.aload_n 0, 1) := by decide +kernel
theorem dX1_findSprings_23 : decode cX1_findSprings 23 = .ok (.getfield 24, 3) := by decide +kernel
theorem dX1_findSprings_26 : decode cX1_findSprings 26 = .ok (.iload_n 3, 1) := by decide +kernel
theorem dX1_findSprings_27 : decode cX1_findSprings 27 = .ok (.iaload, 1) := by decide +kernel
theorem dX1_findSprings_28 : decode cX1_findSprings 28 = .ok (.iconst 1, 1) := by decide +kernel
theorem dX1_findSprings_29 : decode cX1_findSprings 29 = .ok (.iload_n 3, 1) := by decide +kernel
theorem dX1_findSprings_30 : decode cX1_findSprings 30 = .ok (.ishl, 1) := by decide +kernel
theorem dX1_findSprings_31 : decode cX1_findSprings 31 = .ok (.ior, 1) := by decide +kernel
theorem dX1_findSprings_32 : decode cX1_findSprings 32 = .ok (.aload_n 0, 1) := by decide +kernel
theorem dX1_findSprings_33 : decode cX1_findSprings 33 = .ok (.getfield 93, 3) := by decide +kernel
theorem dX1_findSprings_36 : decode cX1_findSprings 36 = .ok (.iand, 1) := by decide +kernel
theorem dX1_findSprings_37 : decode cX1_findSprings 37 = .ok (.iastore, 1) := by decide +kernel
theorem dX1_findSprings_38 : decode cX1_findSprings 38 = .ok (.iinc 2 1, 3) := by decide +kernel
theorem dX1_findSprings_41 : decode cX1_findSprings 41 = .ok (.goto (-39), 3) := by decide +kernel
theorem dX1_findSprings_44 : decode cX1_findSprings 44 = .ok (.return_, 1) := by decide +kernel
theorem dX1_findMet_0 : decode cX1_findMet 0 = .ok (.iconst 0, 1) := by decide +kernel
theorem dX1_findMet_1 : decode cX1_findMet 1 = .ok (.istore_n 2, 1) := by decide +kernel
theorem dX1_findMet_2 : decode cX1_findMet 2 = .ok (.iload_n 2, 1) := by decide +kernel
theorem dX1_findMet_3 : decode cX1_findMet 3 = .ok (.aload_n 1, 1) := by decide +kernel
theorem dX1_findMet_4 : decode cX1_findMet 4 = .ok (.getfield 81, 3) := by decide +kernel
theorem dX1_findMet_7 : decode cX1_findMet 7 = .ok (.if_icmp .ge 89, 3) := by decide +kernel
theorem dX1_findMet_10 : decode cX1_findMet 10 = .ok (.aload_n 0, 1) := by decide +kernel
theorem dX1_findMet_11 : decode cX1_findMet 11 = .ok (.getfield 15, 3) := by decide +kernel
theorem dX1_findMet_14 : decode cX1_findMet 14 = .ok (.iload_n 2, 1) := by decide +kernel
theorem dX1_findMet_15 : decode cX1_findMet 15 = .ok (.iaload, 1) := by decide +kernel
theorem dX1_findMet_16 : decode cX1_findMet 16 = .ok (.istore_n 3, 1) := by decide +kernel
theorem dX1_findMet_17 : decode cX1_findMet 17 = .ok (.iload_n 2, 1) := by decide +kernel
theorem dX1_findMet_18 : decode cX1_findMet 18 = .ok (.ifCond .ne 7, 3) := by decide +kernel
theorem dX1_findMet_21 : decode cX1_findMet 21 = .ok (.iconst (-1), 1) := by decide +kernel
theorem dX1_findMet_22 : decode cX1_findMet 22 = .ok (.goto 11, 3) := by decide +kernel
theorem dX1_findMet_25 : decode cX1_findMet 25 = .ok (.aload_n 0, 1) := by decide +kernel
theorem dX1_findMet_26 : decode cX1_findMet 26 = .ok (.getfield 15, 3) := by decide +kernel
theorem dX1_findMet_29 : decode cX1_findMet 29 = .ok (.iload_n 2, 1) := by decide +kernel
theorem dX1_findMet_30 : decode cX1_findMet 30 = .ok (.iconst 1, 1) := by decide +kernel
theorem dX1_findMet_31 : decode cX1_findMet 31 = .ok (.isub, 1) := by decide +kernel
theorem dX1_findMet_32 : decode cX1_findMet 32 = .ok (.iaload, 1) := by decide +kernel
theorem dX1_findMet_33 : decode cX1_findMet 33 = .ok (.istore 4, 2) := by decide +kernel
theorem dX1_findMet_35 : decode cX1_findMet 35 = .ok (.iload 4, 2) := by decide +kernel
theorem dX1_findMet_37 : decode cX1_findMet 37 = .ok (.iconst (-1), 1) := by decide +kernel
theorem dX1_findMet_38 : decode cX1_findMet 38 = .ok (.if_icmp .eq 35, 3) := by decide +kernel
theorem dX1_findMet_41 : decode cX1_findMet 41 = .ok (.aload_n 1, 1) := by decide +kernel
theorem dX1_findMet_42 : decode cX1_findMet 42 = .ok (.getfield 87, 3) := by decide +kernel
theorem dX1_findMet_45 : decode cX1_findMet 45 = .ok (.iload 4, 2) := by decide +kernel
theorem dX1_findMet_47 : decode cX1_findMet 47 = .ok (.iaload, 1) := by decide +kernel
theorem dX1_findMet_48 : decode cX1_findMet 48 = .ok (.aload_n 1, 1) := by decide +kernel
theorem dX1_findMet_49 : decode cX1_findMet 49 = .ok (.getfield 87, 3) := by decide +kernel
theorem dX1_findMet_52 : decode cX1_findMet 52 = .ok (.iload_n 3, 1) := by decide +kernel
theorem dX1_findMet_53 : decode cX1_findMet 53 = .ok (.iaload, 1) := by decide +kernel
theorem dX1_findMet_54 : decode cX1_findMet 54 = .ok (.if_icmp .ne 19, 3) := by decide +kernel
theorem dX1_findMet_57 : decode cX1_findMet 57 = .ok (.aload_n 0, 1) := by decide +kernel
theorem dX1_findMet_58 : decode cX1_findMet 58 = .ok (.getfield 39, 3) := by decide +kernel
theorem dX1_findMet_61 : decode cX1_findMet 61 = .ok (.iload_n 3, 1) := by decide +kernel
theorem dX1_findMet_62 : decode cX1_findMet 62 = .ok (.aload_n 0, 1) := by decide +kernel
theorem dX1_findMet_63 : decode cX1_findMet 63 = .ok (.getfield 39, 3) := by decide +kernel
theorem dX1_findMet_66 : decode cX1_findMet 66 = .ok (.iload 4, 2) := by decide +kernel
theorem dX1_findMet_68 : decode cX1_findMet 68 = .ok (.iaload, 1) := by decide +kernel
theorem dX1_findMet_69 : decode cX1_findMet 69 = .ok (.iastore, 1) := by decide +kernel
theorem dX1_findMet_70 : decode cX1_findMet 70 = .ok (.goto 20, 3) := by decide +kernel
theorem dX1_findMet_73 : decode cX1_findMet 73 = .ok (.aload_n 0, 1) := by decide +kernel
theorem dX1_findMet_74 : decode cX1_findMet 74 = .ok (.getfield 39, 3) := by decide +kernel
theorem dX1_findMet_77 : decode cX1_findMet 77 = .ok (.iload_n 3, 1) := by decide +kernel
theorem dX1_findMet_78 : decode cX1_findMet 78 = .ok (.aload_n 0, 1) := by decide +kernel
theorem dX1_findMet_79 : decode cX1_findMet 79 = .ok (.aload_n 1, 1) := by decide +kernel
theorem dX1_findMet_80 : decode cX1_findMet 80 = .ok (.aload_n 1, 1) := by decide +kernel
theorem dX1_findMet_81 : decode cX1_findMet 81 = .ok (.getfield 87, 3) := by decide +kernel
theorem dX1_findMet_84 : decode cX1_findMet 84 = .ok (.iload_n 3, 1) := by decide +kernel
theorem dX1_findMet_85 : decode cX1_findMet 85 = .ok (.iaload, 1) := by decide +kernel
theorem dX1_findMet_86 : decode cX1_findMet 86 = .ok (.invokevirtual 111, 3) := by decide +kernel
theorem dX1_findMet_89 : decode cX1_findMet 89 = .ok (.iastore, 1) := by decide +kernel
theorem dX1_findMet_90 : decode cX1_findMet 90 = .ok (.iinc 2 1, 3) := by decide +kernel
theorem dX1_findMet_93 : decode cX1_findMet 93 = .ok (.goto (-91), 3) := by decide +kernel
theorem dX1_findMet_96 : decode cX1_findMet 96 = .ok (.return_, 1) := by decide +kernel
theorem dX1_metFrom_0 : decode cX1_metFrom 0 = .ok (.iconst 0, 1) := by decide +kernel
theorem dX1_metFrom_1 : decode cX1_metFrom 1 = .ok (.istore_n 3, 1) := by decide +kernel
theorem dX1_metFrom_2 : decode cX1_metFrom 2 = .ok (.iconst 0, 1) := by decide +kernel
theorem dX1_metFrom_3 : decode cX1_metFrom 3 = .ok (.istore 4, 2) := by decide +kernel
theorem dX1_metFrom_5 : decode cX1_metFrom 5 = .ok (.iload 4, 2) := by decide +kernel
theorem dX1_metFrom_7 : decode cX1_metFrom 7 = .ok (.aload_n 1, 1) := by decide +kernel
theorem dX1_metFrom_8 : decode cX1_metFrom 8 = .ok (.getfield 81, 3) := by decide +kernel
theorem dX1_metFrom_11 : decode cX1_metFrom 11 = .ok (.if_icmp .ge 32, 3) := by decide +kernel
theorem dX1_metFrom_14 : decode cX1_metFrom 14 = .ok (.aload_n 1, 1) := by decide +kernel
theorem dX1_metFrom_15 : decode cX1_metFrom 15 = .ok (.getfield 90, 3) := by decide +kernel
theorem dX1_metFrom_18 : decode cX1_metFrom 18 = .ok (.iload 4, 2) := by decide +kernel
theorem dX1_metFrom_20 : decode cX1_metFrom 20 = .ok (.iaload, 1) := by decide +kernel
theorem dX1_metFrom_21 : decode cX1_metFrom 21 = .ok (.iload_n 2, 1) := by decide +kernel
theorem dX1_metFrom_22 : decode cX1_metFrom 22 = .ok (.if_icmp .ne 15, 3) := by decide +kernel
theorem dX1_metFrom_25 : decode cX1_metFrom 25 = .ok (.iload_n 3, 1) := by decide +kernel
theorem dX1_metFrom_26 : decode cX1_metFrom 26 = .ok (.aload_n 0, 1) := by decide +kernel
theorem dX1_metFrom_27 : decode cX1_metFrom 27 = .ok (.getfield 39, 3) := by decide +kernel
theorem dX1_metFrom_30 : decode cX1_metFrom 30 = .ok (.iload 4, 2) := by decide +kernel
theorem dX1_metFrom_32 : decode cX1_metFrom 32 = .ok (.iaload, 1) := by decide +kernel
theorem dX1_metFrom_33 : decode cX1_metFrom 33 = .ok (.invokestatic 105, 3) := by decide +kernel
theorem dX1_metFrom_36 : decode cX1_metFrom 36 = .ok (.istore_n 3, 1) := by decide +kernel
theorem dX1_metFrom_37 : decode cX1_metFrom 37 = .ok (.iinc 4 1, 3) := by decide +kernel
theorem dX1_metFrom_40 : decode cX1_metFrom 40 = .ok (.goto (-35), 3) := by decide +kernel
theorem dX1_metFrom_43 : decode cX1_metFrom 43 = .ok (.iload_n 3, 1) := by decide +kernel
theorem dX1_metFrom_44 : decode cX1_metFrom 44 = .ok (.ifCond .ne 5, 3) := by decide +kernel
theorem dX1_metFrom_47 : decode cX1_metFrom 47 = .ok (.iconst 1, 1) := by decide +kernel
theorem dX1_metFrom_48 : decode cX1_metFrom 48 = .ok (.ireturn, 1) := by decide +kernel
theorem dX1_metFrom_49 : decode cX1_metFrom 49 = .ok (.aload_n 0, 1) := by decide +kernel
theorem dX1_metFrom_50 : decode cX1_metFrom 50 = .ok (.aload_n 1, 1) := by decide +kernel
theorem dX1_metFrom_51 : decode cX1_metFrom 51 = .ok (.iload_n 2, 1) := by decide +kernel
theorem dX1_metFrom_52 : decode cX1_metFrom 52 = .ok (.iload_n 3, 1) := by decide +kernel
theorem dX1_metFrom_53 : decode cX1_metFrom 53 = .ok (.invokevirtual 115, 3) := by decide +kernel
theorem dX1_metFrom_56 : decode cX1_metFrom 56 = .ok (.ifCond .eq 9, 3) := by decide +kernel
theorem dX1_metFrom_59 : decode cX1_metFrom 59 = .ok (.iload_n 3, 1) := by decide +kernel
theorem dX1_metFrom_60 : decode cX1_metFrom 60 = .ok (.iconst 1, 1) := by decide +kernel
theorem dX1_metFrom_61 : decode cX1_metFrom 61 = .ok (.iadd, 1) := by decide +kernel
theorem dX1_metFrom_62 : decode cX1_metFrom 62 = .ok (.goto 4, 3) := by decide +kernel
theorem dX1_metFrom_65 : decode cX1_metFrom 65 = .ok (.iload_n 3, 1) := by decide +kernel
theorem dX1_metFrom_66 : decode cX1_metFrom 66 = .ok (.ireturn, 1) := by decide +kernel
theorem dX1_twoApart_0 : decode cX1_twoApart 0 = .ok (.iconst 0, 1) := by decide +kernel
theorem dX1_twoApart_1 : decode cX1_twoApart 1 = .ok (.istore 4, 2) := by decide +kernel
theorem dX1_twoApart_3 : decode cX1_twoApart 3 = .ok (.iload 4, 2) := by decide +kernel
theorem dX1_twoApart_5 : decode cX1_twoApart 5 = .ok (.aload_n 1, 1) := by decide +kernel
theorem dX1_twoApart_6 : decode cX1_twoApart 6 = .ok (.getfield 81, 3) := by decide +kernel
theorem dX1_twoApart_9 : decode cX1_twoApart 9 = .ok (.if_icmp .ge 97, 3) := by decide +kernel
theorem dX1_twoApart_12 : decode cX1_twoApart 12 = .ok (.aload_n 1, 1) := by decide +kernel
theorem dX1_twoApart_13 : decode cX1_twoApart 13 = .ok (.getfield 90, 3) := by decide +kernel
theorem dX1_twoApart_16 : decode cX1_twoApart 16 = .ok (.iload 4, 2) := by decide +kernel
theorem dX1_twoApart_18 : decode cX1_twoApart 18 = .ok (.iaload, 1) := by decide +kernel
theorem dX1_twoApart_19 : decode cX1_twoApart 19 = .ok (.iload_n 2, 1) := by decide +kernel
theorem dX1_twoApart_20 : decode cX1_twoApart 20 = .ok (.if_icmp .ne 80, 3) := by decide +kernel
theorem dX1_twoApart_23 : decode cX1_twoApart 23 = .ok (.aload_n 0, 1) := by decide +kernel
theorem dX1_twoApart_24 : decode cX1_twoApart 24 = .ok (.getfield 39, 3) := by decide +kernel
theorem dX1_twoApart_27 : decode cX1_twoApart 27 = .ok (.iload 4, 2) := by decide +kernel
theorem dX1_twoApart_29 : decode cX1_twoApart 29 = .ok (.iaload, 1) := by decide +kernel
theorem dX1_twoApart_30 : decode cX1_twoApart 30 = .ok (.iload_n 3, 1) := by decide +kernel
theorem dX1_twoApart_31 : decode cX1_twoApart 31 = .ok (.if_icmp .eq 6, 3) := by decide +kernel
theorem dX1_twoApart_34 : decode cX1_twoApart 34 = .ok (.goto 66, 3) := by decide +kernel
theorem dX1_twoApart_37 : decode cX1_twoApart 37 = .ok (.iload 4, 2) := by decide +kernel
theorem dX1_twoApart_39 : decode cX1_twoApart 39 = .ok (.iconst 1, 1) := by decide +kernel
theorem dX1_twoApart_40 : decode cX1_twoApart 40 = .ok (.iadd, 1) := by decide +kernel
theorem dX1_twoApart_41 : decode cX1_twoApart 41 = .ok (.istore 5, 2) := by decide +kernel
theorem dX1_twoApart_43 : decode cX1_twoApart 43 = .ok (.iload 5, 2) := by decide +kernel
theorem dX1_twoApart_45 : decode cX1_twoApart 45 = .ok (.aload_n 1, 1) := by decide +kernel
theorem dX1_twoApart_46 : decode cX1_twoApart 46 = .ok (.getfield 81, 3) := by decide +kernel
theorem dX1_twoApart_49 : decode cX1_twoApart 49 = .ok (.if_icmp .ge 51, 3) := by decide +kernel
theorem dX1_twoApart_52 : decode cX1_twoApart 52 = .ok (.aload_n 1, 1) := by decide +kernel
theorem dX1_twoApart_53 : decode cX1_twoApart 53 = .ok (.getfield 90, 3) := by decide +kernel
theorem dX1_twoApart_56 : decode cX1_twoApart 56 = .ok (.iload 5, 2) := by decide +kernel
theorem dX1_twoApart_58 : decode cX1_twoApart 58 = .ok (.iaload, 1) := by decide +kernel
theorem dX1_twoApart_59 : decode cX1_twoApart 59 = .ok (.iload_n 2, 1) := by decide +kernel
theorem dX1_twoApart_60 : decode cX1_twoApart 60 = .ok (.if_icmp .ne 34, 3) := by decide +kernel
theorem dX1_twoApart_63 : decode cX1_twoApart 63 = .ok (.aload_n 0, 1) := by decide +kernel
theorem dX1_twoApart_64 : decode cX1_twoApart 64 = .ok (.getfield 39, 3) := by decide +kernel
theorem dX1_twoApart_67 : decode cX1_twoApart 67 = .ok (.iload 5, 2) := by decide +kernel
theorem dX1_twoApart_69 : decode cX1_twoApart 69 = .ok (.iaload, 1) := by decide +kernel
theorem dX1_twoApart_70 : decode cX1_twoApart 70 = .ok (.iload_n 3, 1) := by decide +kernel
theorem dX1_twoApart_71 : decode cX1_twoApart 71 = .ok (.if_icmp .ne 23, 3) := by decide +kernel
theorem dX1_twoApart_74 : decode cX1_twoApart 74 = .ok (.aload_n 0, 1) := by decide +kernel
theorem dX1_twoApart_75 : decode cX1_twoApart 75 = .ok (.getfield 36, 3) := by decide +kernel
theorem dX1_twoApart_78 : decode cX1_twoApart 78 = .ok (.iload 4, 2) := by decide +kernel
theorem dX1_twoApart_80 : decode cX1_twoApart 80 = .ok (.iaload, 1) := by decide +kernel
theorem dX1_twoApart_81 : decode cX1_twoApart 81 = .ok (.aload_n 0, 1) := by decide +kernel
theorem dX1_twoApart_82 : decode cX1_twoApart 82 = .ok (.getfield 36, 3) := by decide +kernel
theorem dX1_twoApart_85 : decode cX1_twoApart 85 = .ok (.iload 5, 2) := by decide +kernel
theorem dX1_twoApart_87 : decode cX1_twoApart 87 = .ok (.iaload, 1) := by decide +kernel
theorem dX1_twoApart_88 : decode cX1_twoApart 88 = .ok (.iand, 1) := by decide +kernel
theorem dX1_twoApart_89 : decode cX1_twoApart 89 = .ok (.ifCond .ne 5, 3) := by decide +kernel
theorem dX1_twoApart_92 : decode cX1_twoApart 92 = .ok (.iconst 1, 1) := by decide +kernel
theorem dX1_twoApart_93 : decode cX1_twoApart 93 = .ok (.ireturn, 1) := by decide +kernel
theorem dX1_twoApart_94 : decode cX1_twoApart 94 = .ok (.iinc 5 1, 3) := by decide +kernel
theorem dX1_twoApart_97 : decode cX1_twoApart 97 = .ok (.goto (-54), 3) := by decide +kernel
theorem dX1_twoApart_100 : decode cX1_twoApart 100 = .ok (.iinc 4 1, 3) := by decide +kernel
theorem dX1_twoApart_103 : decode cX1_twoApart 103 = .ok (.goto (-100), 3) := by decide +kernel
theorem dX1_twoApart_106 : decode cX1_twoApart 106 = .ok (.iconst 0, 1) := by decide +kernel
theorem dX1_twoApart_107 : decode cX1_twoApart 107 = .ok (.ireturn, 1) := by decide +kernel
theorem dX1_howManyPart_0 : decode cX1_howManyPart 0 = .ok (.iconst 0, 1) := by decide +kernel
theorem dX1_howManyPart_1 : decode cX1_howManyPart 1 = .ok (.istore_n 2, 1) := by decide +kernel
theorem dX1_howManyPart_2 : decode cX1_howManyPart 2 = .ok (.iconst 0, 1) := by decide +kernel
theorem dX1_howManyPart_3 : decode cX1_howManyPart 3 = .ok (.istore_n 3, 1) := by decide +kernel
theorem dX1_howManyPart_4 : decode cX1_howManyPart 4 = .ok (.iload_n 3, 1) := by decide +kernel
theorem dX1_howManyPart_5 : decode cX1_howManyPart 5 = .ok (.aload_n 1, 1) := by decide +kernel
theorem dX1_howManyPart_6 : decode cX1_howManyPart 6 = .ok (.getfield 99, 3) := by decide +kernel
theorem dX1_howManyPart_9 : decode cX1_howManyPart 9 = .ok (.if_icmp .ge 22, 3) := by decide +kernel
theorem dX1_howManyPart_12 : decode cX1_howManyPart 12 = .ok (.aload_n 0, 1) := by decide +kernel
theorem dX1_howManyPart_13 : decode cX1_howManyPart 13 = .ok (.getfield 21, 3) := by decide +kernel
theorem dX1_howManyPart_16 : decode cX1_howManyPart 16 = .ok (.iload_n 3, 1) := by decide +kernel
theorem dX1_howManyPart_17 : decode cX1_howManyPart 17 = .ok (.iaload, 1) := by decide +kernel
theorem dX1_howManyPart_18 : decode cX1_howManyPart 18 = .ok (.iconst 2, 1) := by decide +kernel
theorem dX1_howManyPart_19 : decode cX1_howManyPart 19 = .ok (.if_icmp .lt 6, 3) := by decide +kernel
theorem dX1_howManyPart_22 : decode cX1_howManyPart 22 = .ok (.iinc 2 1, 3) := by decide +kernel
theorem dX1_howManyPart_25 : decode cX1_howManyPart 25 = .ok (.iinc 3 1, 3) := by decide +kernel
theorem dX1_howManyPart_28 : decode cX1_howManyPart 28 = .ok (.goto (-24), 3) := by decide +kernel
theorem dX1_howManyPart_31 : decode cX1_howManyPart 31 = .ok (.iload_n 2, 1) := by decide +kernel
theorem dX1_howManyPart_32 : decode cX1_howManyPart 32 = .ok (.ireturn, 1) := by decide +kernel
theorem dX1_greatestMet_0 : decode cX1_greatestMet 0 = .ok (.iconst 0, 1) := by decide +kernel
theorem dX1_greatestMet_1 : decode cX1_greatestMet 1 = .ok (.istore_n 2, 1) := by decide +kernel
theorem dX1_greatestMet_2 : decode cX1_greatestMet 2 = .ok (.iconst 0, 1) := by decide +kernel
theorem dX1_greatestMet_3 : decode cX1_greatestMet 3 = .ok (.istore_n 3, 1) := by decide +kernel
theorem dX1_greatestMet_4 : decode cX1_greatestMet 4 = .ok (.iload_n 3, 1) := by decide +kernel
theorem dX1_greatestMet_5 : decode cX1_greatestMet 5 = .ok (.aload_n 1, 1) := by decide +kernel
theorem dX1_greatestMet_6 : decode cX1_greatestMet 6 = .ok (.getfield 81, 3) := by decide +kernel
theorem dX1_greatestMet_9 : decode cX1_greatestMet 9 = .ok (.if_icmp .ge 20, 3) := by decide +kernel
theorem dX1_greatestMet_12 : decode cX1_greatestMet 12 = .ok (.iload_n 2, 1) := by decide +kernel
theorem dX1_greatestMet_13 : decode cX1_greatestMet 13 = .ok (.aload_n 0, 1) := by decide +kernel
theorem dX1_greatestMet_14 : decode cX1_greatestMet 14 = .ok (.getfield 39, 3) := by decide +kernel
theorem dX1_greatestMet_17 : decode cX1_greatestMet 17 = .ok (.iload_n 3, 1) := by decide +kernel
theorem dX1_greatestMet_18 : decode cX1_greatestMet 18 = .ok (.iaload, 1) := by decide +kernel
theorem dX1_greatestMet_19 : decode cX1_greatestMet 19 = .ok (.invokestatic 105, 3) := by decide +kernel
theorem dX1_greatestMet_22 : decode cX1_greatestMet 22 = .ok (.istore_n 2, 1) := by decide +kernel
theorem dX1_greatestMet_23 : decode cX1_greatestMet 23 = .ok (.iinc 3 1, 3) := by decide +kernel
theorem dX1_greatestMet_26 : decode cX1_greatestMet 26 = .ok (.goto (-22), 3) := by decide +kernel
theorem dX1_greatestMet_29 : decode cX1_greatestMet 29 = .ok (.iload_n 2, 1) := by decide +kernel
theorem dX1_greatestMet_30 : decode cX1_greatestMet 30 = .ok (.ireturn, 1) := by decide +kernel
theorem dX1_howManyMet_0 : decode cX1_howManyMet 0 = .ok (.iconst 0, 1) := by decide +kernel
theorem dX1_howManyMet_1 : decode cX1_howManyMet 1 = .ok (.istore_n 3, 1) := by decide +kernel
theorem dX1_howManyMet_2 : decode cX1_howManyMet 2 = .ok (.iconst 0, 1) := by decide +kernel
theorem dX1_howManyMet_3 : decode cX1_howManyMet 3 = .ok (.istore 4, 2) := by decide +kernel
theorem dX1_howManyMet_5 : decode cX1_howManyMet 5 = .ok (.iload 4, 2) := by decide +kernel
theorem dX1_howManyMet_7 : decode cX1_howManyMet 7 = .ok (.aload_n 1, 1) := by decide +kernel
theorem dX1_howManyMet_8 : decode cX1_howManyMet 8 = .ok (.getfield 81, 3) := by decide +kernel
theorem dX1_howManyMet_11 : decode cX1_howManyMet 11 = .ok (.if_icmp .ge 23, 3) := by decide +kernel
theorem dX1_howManyMet_14 : decode cX1_howManyMet 14 = .ok (.aload_n 0, 1) := by decide +kernel
theorem dX1_howManyMet_15 : decode cX1_howManyMet 15 = .ok (.getfield 39, 3) := by decide +kernel
theorem dX1_howManyMet_18 : decode cX1_howManyMet 18 = .ok (.iload 4, 2) := by decide +kernel
theorem dX1_howManyMet_20 : decode cX1_howManyMet 20 = .ok (.iaload, 1) := by decide +kernel
theorem dX1_howManyMet_21 : decode cX1_howManyMet 21 = .ok (.iload_n 2, 1) := by decide +kernel
theorem dX1_howManyMet_22 : decode cX1_howManyMet 22 = .ok (.if_icmp .ne 6, 3) := by decide +kernel
theorem dX1_howManyMet_25 : decode cX1_howManyMet 25 = .ok (.iinc 3 1, 3) := by decide +kernel
theorem dX1_howManyMet_28 : decode cX1_howManyMet 28 = .ok (.iinc 4 1, 3) := by decide +kernel
theorem dX1_howManyMet_31 : decode cX1_howManyMet 31 = .ok (.goto (-26), 3) := by decide +kernel
theorem dX1_howManyMet_34 : decode cX1_howManyMet 34 = .ok (.iload_n 3, 1) := by decide +kernel
theorem dX1_howManyMet_35 : decode cX1_howManyMet 35 = .ok (.ireturn, 1) := by decide +kernel
theorem dX1_lengthOfMet_0 : decode cX1_lengthOfMet 0 = .ok (.iconst 0, 1) := by decide +kernel
theorem dX1_lengthOfMet_1 : decode cX1_lengthOfMet 1 = .ok (.istore_n 3, 1) := by decide +kernel
theorem dX1_lengthOfMet_2 : decode cX1_lengthOfMet 2 = .ok (.iconst 0, 1) := by decide +kernel
theorem dX1_lengthOfMet_3 : decode cX1_lengthOfMet 3 = .ok (.istore 4, 2) := by decide +kernel
theorem dX1_lengthOfMet_5 : decode cX1_lengthOfMet 5 = .ok (.iload 4, 2) := by decide +kernel
theorem dX1_lengthOfMet_7 : decode cX1_lengthOfMet 7 = .ok (.aload_n 1, 1) := by decide +kernel
theorem dX1_lengthOfMet_8 : decode cX1_lengthOfMet 8 = .ok (.getfield 81, 3) := by decide +kernel
theorem dX1_lengthOfMet_11 : decode cX1_lengthOfMet 11 = .ok (.if_icmp .ge 30, 3) := by decide +kernel
theorem dX1_lengthOfMet_14 : decode cX1_lengthOfMet 14 = .ok (.aload_n 0, 1) := by decide +kernel
theorem dX1_lengthOfMet_15 : decode cX1_lengthOfMet 15 = .ok (.getfield 39, 3) := by decide +kernel
theorem dX1_lengthOfMet_18 : decode cX1_lengthOfMet 18 = .ok (.iload 4, 2) := by decide +kernel
theorem dX1_lengthOfMet_20 : decode cX1_lengthOfMet 20 = .ok (.iaload, 1) := by decide +kernel
theorem dX1_lengthOfMet_21 : decode cX1_lengthOfMet 21 = .ok (.iload_n 2, 1) := by decide +kernel
theorem dX1_lengthOfMet_22 : decode cX1_lengthOfMet 22 = .ok (.if_icmp .ne 13, 3) := by decide +kernel
theorem dX1_lengthOfMet_25 : decode cX1_lengthOfMet 25 = .ok (.iload_n 3, 1) := by decide +kernel
theorem dX1_lengthOfMet_26 : decode cX1_lengthOfMet 26 = .ok (.aload_n 1, 1) := by decide +kernel
theorem dX1_lengthOfMet_27 : decode cX1_lengthOfMet 27 = .ok (.getfield 102, 3) := by decide +kernel
theorem dX1_lengthOfMet_30 : decode cX1_lengthOfMet 30 = .ok (.iload 4, 2) := by decide +kernel
theorem dX1_lengthOfMet_32 : decode cX1_lengthOfMet 32 = .ok (.iaload, 1) := by decide +kernel
theorem dX1_lengthOfMet_33 : decode cX1_lengthOfMet 33 = .ok (.iadd, 1) := by decide +kernel
theorem dX1_lengthOfMet_34 : decode cX1_lengthOfMet 34 = .ok (.istore_n 3, 1) := by decide +kernel
theorem dX1_lengthOfMet_35 : decode cX1_lengthOfMet 35 = .ok (.iinc 4 1, 3) := by decide +kernel
theorem dX1_lengthOfMet_38 : decode cX1_lengthOfMet 38 = .ok (.goto (-33), 3) := by decide +kernel
theorem dX1_lengthOfMet_41 : decode cX1_lengthOfMet 41 = .ok (.iload_n 3, 1) := by decide +kernel
theorem dX1_lengthOfMet_42 : decode cX1_lengthOfMet 42 = .ok (.ireturn, 1) := by decide +kernel
theorem dX1_meeting_0 : decode cX1_meeting 0 = .ok (.aload_n 0, 1) := by decide +kernel
theorem dX1_meeting_1 : decode cX1_meeting 1 = .ok (.getfield 27, 3) := by decide +kernel
theorem dX1_meeting_4 : decode cX1_meeting 4 = .ok (.iload_n 2, 1) := by decide +kernel
theorem dX1_meeting_5 : decode cX1_meeting 5 = .ok (.iaload, 1) := by decide +kernel
theorem dX1_meeting_6 : decode cX1_meeting 6 = .ok (.iconst 1, 1) := by decide +kernel
theorem dX1_meeting_7 : decode cX1_meeting 7 = .ok (.iload_n 2, 1) := by decide +kernel
theorem dX1_meeting_8 : decode cX1_meeting 8 = .ok (.ishl, 1) := by decide +kernel
theorem dX1_meeting_9 : decode cX1_meeting 9 = .ok (.ior, 1) := by decide +kernel
theorem dX1_meeting_10 : decode cX1_meeting 10 = .ok (.aload_n 0, 1) := by decide +kernel
theorem dX1_meeting_11 : decode cX1_meeting 11 = .ok (.getfield 27, 3) := by decide +kernel
theorem dX1_meeting_14 : decode cX1_meeting 14 = .ok (.iload_n 3, 1) := by decide +kernel
theorem dX1_meeting_15 : decode cX1_meeting 15 = .ok (.iaload, 1) := by decide +kernel
theorem dX1_meeting_16 : decode cX1_meeting 16 = .ok (.iconst 1, 1) := by decide +kernel
theorem dX1_meeting_17 : decode cX1_meeting 17 = .ok (.iload_n 3, 1) := by decide +kernel
theorem dX1_meeting_18 : decode cX1_meeting 18 = .ok (.ishl, 1) := by decide +kernel
theorem dX1_meeting_19 : decode cX1_meeting 19 = .ok (.ior, 1) := by decide +kernel
theorem dX1_meeting_20 : decode cX1_meeting 20 = .ok (.iand, 1) := by decide +kernel
theorem dX1_meeting_21 : decode cX1_meeting 21 = .ok (.istore 4, 2) := by decide +kernel
theorem dX1_meeting_23 : decode cX1_meeting 23 = .ok (.iconst 0, 1) := by decide +kernel
theorem dX1_meeting_24 : decode cX1_meeting 24 = .ok (.istore 5, 2) := by decide +kernel
theorem dX1_meeting_26 : decode cX1_meeting 26 = .ok (.iload 5, 2) := by decide +kernel
theorem dX1_meeting_28 : decode cX1_meeting 28 = .ok (.aload_n 1, 1) := by decide +kernel
theorem dX1_meeting_29 : decode cX1_meeting 29 = .ok (.getfield 99, 3) := by decide +kernel
theorem dX1_meeting_32 : decode cX1_meeting 32 = .ok (.if_icmp .ge 36, 3) := by decide +kernel
theorem dX1_meeting_35 : decode cX1_meeting 35 = .ok (.iload 4, 2) := by decide +kernel
theorem dX1_meeting_37 : decode cX1_meeting 37 = .ok (.iload 5, 2) := by decide +kernel
theorem dX1_meeting_39 : decode cX1_meeting 39 = .ok (.ishr, 1) := by decide +kernel
theorem dX1_meeting_40 : decode cX1_meeting 40 = .ok (.iconst 1, 1) := by decide +kernel
theorem dX1_meeting_41 : decode cX1_meeting 41 = .ok (.iand, 1) := by decide +kernel
theorem dX1_meeting_42 : decode cX1_meeting 42 = .ok (.iconst 1, 1) := by decide +kernel
theorem dX1_meeting_43 : decode cX1_meeting 43 = .ok (.if_icmp .ne 19, 3) := by decide +kernel
theorem dX1_meeting_46 : decode cX1_meeting 46 = .ok (.aload_n 0, 1) := by decide +kernel
theorem dX1_meeting_47 : decode cX1_meeting 47 = .ok (.getfield 24, 3) := by decide +kernel
theorem dX1_meeting_50 : decode cX1_meeting 50 = .ok (.iload 5, 2) := by decide +kernel
theorem dX1_meeting_52 : decode cX1_meeting 52 = .ok (.iaload, 1) := by decide +kernel
theorem dX1_meeting_53 : decode cX1_meeting 53 = .ok (.iload 4, 2) := by decide +kernel
theorem dX1_meeting_55 : decode cX1_meeting 55 = .ok (.iand, 1) := by decide +kernel
theorem dX1_meeting_56 : decode cX1_meeting 56 = .ok (.ifCond .ne 6, 3) := by decide +kernel
theorem dX1_meeting_59 : decode cX1_meeting 59 = .ok (.iload 5, 2) := by decide +kernel
theorem dX1_meeting_61 : decode cX1_meeting 61 = .ok (.ireturn, 1) := by decide +kernel
theorem dX1_meeting_62 : decode cX1_meeting 62 = .ok (.iinc 5 1, 3) := by decide +kernel
theorem dX1_meeting_65 : decode cX1_meeting 65 = .ok (.goto (-39), 3) := by decide +kernel
theorem dX1_meeting_68 : decode cX1_meeting 68 = .ok (.iconst (-1), 1) := by decide +kernel
theorem dX1_meeting_69 : decode cX1_meeting 69 = .ok (.ireturn, 1) := by decide +kernel
theorem dX1_joining_0 : decode cX1_joining 0 = .ok (.iconst 0, 1) := by decide +kernel
theorem dX1_joining_1 : decode cX1_joining 1 = .ok (.istore_n 3, 1) := by decide +kernel
theorem dX1_joining_2 : decode cX1_joining 2 = .ok (.iload_n 3, 1) := by decide +kernel
theorem dX1_joining_3 : decode cX1_joining 3 = .ok (.aload_n 1, 1) := by decide +kernel
theorem dX1_joining_4 : decode cX1_joining 4 = .ok (.getfield 99, 3) := by decide +kernel
theorem dX1_joining_7 : decode cX1_joining 7 = .ok (.if_icmp .ge 51, 3) := by decide +kernel
theorem dX1_joining_10 : decode cX1_joining 10 = .ok (.aload_n 0, 1) := by decide +kernel
theorem dX1_joining_11 : decode cX1_joining 11 = .ok (.getfield 9, 3) := by decide +kernel
theorem dX1_joining_14 : decode cX1_joining 14 = .ok (.iload_n 3, 1) := by decide +kernel
theorem dX1_joining_15 : decode cX1_joining 15 = .ok (.iaload, 1) := by decide +kernel
theorem dX1_joining_16 : decode cX1_joining 16 = .ok (.istore 4, 2) := by decide +kernel
theorem dX1_joining_18 : decode cX1_joining 18 = .ok (.aload_n 0, 1) := by decide +kernel
theorem dX1_joining_19 : decode cX1_joining 19 = .ok (.getfield 27, 3) := by decide +kernel
theorem dX1_joining_22 : decode cX1_joining 22 = .ok (.iload_n 2, 1) := by decide +kernel
theorem dX1_joining_23 : decode cX1_joining 23 = .ok (.iaload, 1) := by decide +kernel
theorem dX1_joining_24 : decode cX1_joining 24 = .ok (.iload 4, 2) := by decide +kernel
theorem dX1_joining_26 : decode cX1_joining 26 = .ok (.ishr, 1) := by decide +kernel
theorem dX1_joining_27 : decode cX1_joining 27 = .ok (.iconst 1, 1) := by decide +kernel
theorem dX1_joining_28 : decode cX1_joining 28 = .ok (.iand, 1) := by decide +kernel
theorem dX1_joining_29 : decode cX1_joining 29 = .ok (.iconst 1, 1) := by decide +kernel
theorem dX1_joining_30 : decode cX1_joining 30 = .ok (.if_icmp .ne 22, 3) := by decide +kernel
theorem dX1_joining_33 : decode cX1_joining 33 = .ok (.aload_n 0, 1) := by decide +kernel
theorem dX1_joining_34 : decode cX1_joining 34 = .ok (.aload_n 1, 1) := by decide +kernel
theorem dX1_joining_35 : decode cX1_joining 35 = .ok (.iload_n 2, 1) := by decide +kernel
theorem dX1_joining_36 : decode cX1_joining 36 = .ok (.iload 4, 2) := by decide +kernel
theorem dX1_joining_38 : decode cX1_joining 38 = .ok (.invokevirtual 119, 3) := by decide +kernel
theorem dX1_joining_41 : decode cX1_joining 41 = .ok (.aload_n 0, 1) := by decide +kernel
theorem dX1_joining_42 : decode cX1_joining 42 = .ok (.getfield 96, 3) := by decide +kernel
theorem dX1_joining_45 : decode cX1_joining 45 = .ok (.iand, 1) := by decide +kernel
theorem dX1_joining_46 : decode cX1_joining 46 = .ok (.ifCond .ne 6, 3) := by decide +kernel
theorem dX1_joining_49 : decode cX1_joining 49 = .ok (.iload 4, 2) := by decide +kernel
theorem dX1_joining_51 : decode cX1_joining 51 = .ok (.ireturn, 1) := by decide +kernel
theorem dX1_joining_52 : decode cX1_joining 52 = .ok (.iinc 3 1, 3) := by decide +kernel
theorem dX1_joining_55 : decode cX1_joining 55 = .ok (.goto (-53), 3) := by decide +kernel
theorem dX1_joining_58 : decode cX1_joining 58 = .ok (.iconst (-1), 1) := by decide +kernel
theorem dX1_joining_59 : decode cX1_joining 59 = .ok (.ireturn, 1) := by decide +kernel
theorem dX1_comeBeside_0 : decode cX1_comeBeside 0 = .ok (.iconst 1, 1) := by decide +kernel
theorem dX1_comeBeside_1 : decode cX1_comeBeside 1 = .ok (.iload_n 2, 1) := by decide +kernel
theorem dX1_comeBeside_2 : decode cX1_comeBeside 2 = .ok (.ishl, 1) := by decide +kernel
theorem dX1_comeBeside_3 : decode cX1_comeBeside 3 = .ok (.istore 4, 2) := by decide +kernel
theorem dX1_comeBeside_5 : decode cX1_comeBeside 5 = .ok (.iconst 0, 1) := by decide +kernel
theorem dX1_comeBeside_6 : decode cX1_comeBeside 6 = .ok (.istore 5, 2) := by decide +kernel
theorem dX1_comeBeside_8 : decode cX1_comeBeside 8 = .ok (.iload 5, 2) := by decide +kernel
theorem dX1_comeBeside_10 : decode cX1_comeBeside 10 = .ok (.aload_n 1, 1) := by decide +kernel
theorem dX1_comeBeside_11 : decode cX1_comeBeside 11 = .ok (.getfield 81, 3) := by decide +kernel
theorem dX1_comeBeside_14 : decode cX1_comeBeside 14 = .ok (.if_icmp .ge 59, 3) := by decide +kernel
theorem dX1_comeBeside_17 : decode cX1_comeBeside 17 = .ok (.aload_n 0, 1) := by decide +kernel
theorem dX1_comeBeside_18 : decode cX1_comeBeside 18 = .ok (.getfield 15, 3) := by decide +kernel
theorem dX1_comeBeside_21 : decode cX1_comeBeside 21 = .ok (.iload 5, 2) := by decide +kernel
theorem dX1_comeBeside_23 : decode cX1_comeBeside 23 = .ok (.iaload, 1) := by decide +kernel
theorem dX1_comeBeside_24 : decode cX1_comeBeside 24 = .ok (.istore 6, 2) := by decide +kernel
theorem dX1_comeBeside_26 : decode cX1_comeBeside 26 = .ok (.aload_n 1, 1) := by decide +kernel
theorem dX1_comeBeside_27 : decode cX1_comeBeside 27 = .ok (.getfield 90, 3) := by decide +kernel
theorem dX1_comeBeside_30 : decode cX1_comeBeside 30 = .ok (.iload 6, 2) := by decide +kernel
theorem dX1_comeBeside_32 : decode cX1_comeBeside 32 = .ok (.iaload, 1) := by decide +kernel
theorem dX1_comeBeside_33 : decode cX1_comeBeside 33 = .ok (.iload_n 3, 1) := by decide +kernel
theorem dX1_comeBeside_34 : decode cX1_comeBeside 34 = .ok (.if_icmp .eq 33, 3) := by decide +kernel
theorem dX1_comeBeside_37 : decode cX1_comeBeside 37 = .ok (.iload 4, 2) := by decide +kernel
theorem dX1_comeBeside_39 : decode cX1_comeBeside 39 = .ok (.aload_n 1, 1) := by decide +kernel
theorem dX1_comeBeside_40 : decode cX1_comeBeside 40 = .ok (.getfield 87, 3) := by decide +kernel
theorem dX1_comeBeside_43 : decode cX1_comeBeside 43 = .ok (.iload 6, 2) := by decide +kernel
theorem dX1_comeBeside_45 : decode cX1_comeBeside 45 = .ok (.iaload, 1) := by decide +kernel
theorem dX1_comeBeside_46 : decode cX1_comeBeside 46 = .ok (.ishr, 1) := by decide +kernel
theorem dX1_comeBeside_47 : decode cX1_comeBeside 47 = .ok (.iconst 1, 1) := by decide +kernel
theorem dX1_comeBeside_48 : decode cX1_comeBeside 48 = .ok (.iand, 1) := by decide +kernel
theorem dX1_comeBeside_49 : decode cX1_comeBeside 49 = .ok (.iconst 1, 1) := by decide +kernel
theorem dX1_comeBeside_50 : decode cX1_comeBeside 50 = .ok (.if_icmp .ne 17, 3) := by decide +kernel
theorem dX1_comeBeside_53 : decode cX1_comeBeside 53 = .ok (.iload 4, 2) := by decide +kernel
theorem dX1_comeBeside_55 : decode cX1_comeBeside 55 = .ok (.iconst 1, 1) := by decide +kernel
theorem dX1_comeBeside_56 : decode cX1_comeBeside 56 = .ok (.aload_n 1, 1) := by decide +kernel
theorem dX1_comeBeside_57 : decode cX1_comeBeside 57 = .ok (.getfield 90, 3) := by decide +kernel
theorem dX1_comeBeside_60 : decode cX1_comeBeside 60 = .ok (.iload 6, 2) := by decide +kernel
theorem dX1_comeBeside_62 : decode cX1_comeBeside 62 = .ok (.iaload, 1) := by decide +kernel
theorem dX1_comeBeside_63 : decode cX1_comeBeside 63 = .ok (.ishl, 1) := by decide +kernel
theorem dX1_comeBeside_64 : decode cX1_comeBeside 64 = .ok (.ior, 1) := by decide +kernel
theorem dX1_comeBeside_65 : decode cX1_comeBeside 65 = .ok (.istore 4, 2) := by decide +kernel
theorem dX1_comeBeside_67 : decode cX1_comeBeside 67 = .ok (.iinc 5 1, 3) := by decide +kernel
theorem dX1_comeBeside_70 : decode cX1_comeBeside 70 = .ok (.goto (-62), 3) := by decide +kernel
theorem dX1_comeBeside_73 : decode cX1_comeBeside 73 = .ok (.iload 4, 2) := by decide +kernel
theorem dX1_comeBeside_75 : decode cX1_comeBeside 75 = .ok (.ireturn, 1) := by decide +kernel
theorem dX1_telling_0 : decode cX1_telling 0 = .ok (.iconst (-1), 1) := by decide +kernel
theorem dX1_telling_1 : decode cX1_telling 1 = .ok (.istore_n 3, 1) := by decide +kernel
theorem dX1_telling_2 : decode cX1_telling 2 = .ok (.iconst 0, 1) := by decide +kernel
theorem dX1_telling_3 : decode cX1_telling 3 = .ok (.istore 4, 2) := by decide +kernel
theorem dX1_telling_5 : decode cX1_telling 5 = .ok (.iconst 0, 1) := by decide +kernel
theorem dX1_telling_6 : decode cX1_telling 6 = .ok (.istore 5, 2) := by decide +kernel
theorem dX1_telling_8 : decode cX1_telling 8 = .ok (.iload 5, 2) := by decide +kernel
theorem dX1_telling_10 : decode cX1_telling 10 = .ok (.aload_n 1, 1) := by decide +kernel
theorem dX1_telling_11 : decode cX1_telling 11 = .ok (.getfield 81, 3) := by decide +kernel
theorem dX1_telling_14 : decode cX1_telling 14 = .ok (.if_icmp .ge 38, 3) := by decide +kernel
theorem dX1_telling_17 : decode cX1_telling 17 = .ok (.aload_n 0, 1) := by decide +kernel
theorem dX1_telling_18 : decode cX1_telling 18 = .ok (.aload_n 1, 1) := by decide +kernel
theorem dX1_telling_19 : decode cX1_telling 19 = .ok (.iload_n 2, 1) := by decide +kernel
theorem dX1_telling_20 : decode cX1_telling 20 = .ok (.iload 5, 2) := by decide +kernel
theorem dX1_telling_22 : decode cX1_telling 22 = .ok (.invokevirtual 123, 3) := by decide +kernel
theorem dX1_telling_25 : decode cX1_telling 25 = .ok (.istore 6, 2) := by decide +kernel
theorem dX1_telling_27 : decode cX1_telling 27 = .ok (.iload_n 3, 1) := by decide +kernel
theorem dX1_telling_28 : decode cX1_telling 28 = .ok (.iconst (-1), 1) := by decide +kernel
theorem dX1_telling_29 : decode cX1_telling 29 = .ok (.if_icmp .eq 10, 3) := by decide +kernel
theorem dX1_telling_32 : decode cX1_telling 32 = .ok (.iload 6, 2) := by decide +kernel
theorem dX1_telling_34 : decode cX1_telling 34 = .ok (.iload 4, 2) := by decide +kernel
theorem dX1_telling_36 : decode cX1_telling 36 = .ok (.if_icmp .ge 10, 3) := by decide +kernel
theorem dX1_telling_39 : decode cX1_telling 39 = .ok (.iload 5, 2) := by decide +kernel
theorem dX1_telling_41 : decode cX1_telling 41 = .ok (.istore_n 3, 1) := by decide +kernel
theorem dX1_telling_42 : decode cX1_telling 42 = .ok (.iload 6, 2) := by decide +kernel
theorem dX1_telling_44 : decode cX1_telling 44 = .ok (.istore 4, 2) := by decide +kernel
theorem dX1_telling_46 : decode cX1_telling 46 = .ok (.iinc 5 1, 3) := by decide +kernel
theorem dX1_telling_49 : decode cX1_telling 49 = .ok (.goto (-41), 3) := by decide +kernel
theorem dX1_telling_52 : decode cX1_telling 52 = .ok (.iload_n 3, 1) := by decide +kernel
theorem dX1_telling_53 : decode cX1_telling 53 = .ok (.ireturn, 1) := by decide +kernel
theorem dX1_leftAtMost_0 : decode cX1_leftAtMost 0 = .ok (.aload_n 1, 1) := by decide +kernel
theorem dX1_leftAtMost_1 : decode cX1_leftAtMost 1 = .ok (.getfield 87, 3) := by decide +kernel
theorem dX1_leftAtMost_4 : decode cX1_leftAtMost 4 = .ok (.iload_n 3, 1) := by decide +kernel
theorem dX1_leftAtMost_5 : decode cX1_leftAtMost 5 = .ok (.iaload, 1) := by decide +kernel
theorem dX1_leftAtMost_6 : decode cX1_leftAtMost 6 = .ok (.istore 4, 2) := by decide +kernel
theorem dX1_leftAtMost_8 : decode cX1_leftAtMost 8 = .ok (.iload_n 2, 1) := by decide +kernel
theorem dX1_leftAtMost_9 : decode cX1_leftAtMost 9 = .ok (.aload_n 0, 1) := by decide +kernel
theorem dX1_leftAtMost_10 : decode cX1_leftAtMost 10 = .ok (.getfield 24, 3) := by decide +kernel
theorem dX1_leftAtMost_13 : decode cX1_leftAtMost 13 = .ok (.iload 4, 2) := by decide +kernel
theorem dX1_leftAtMost_15 : decode cX1_leftAtMost 15 = .ok (.iaload, 1) := by decide +kernel
theorem dX1_leftAtMost_16 : decode cX1_leftAtMost 16 = .ok (.iconst 1, 1) := by decide +kernel
theorem dX1_leftAtMost_17 : decode cX1_leftAtMost 17 = .ok (.iload 4, 2) := by decide +kernel
theorem dX1_leftAtMost_19 : decode cX1_leftAtMost 19 = .ok (.ishl, 1) := by decide +kernel
theorem dX1_leftAtMost_20 : decode cX1_leftAtMost 20 = .ok (.ior, 1) := by decide +kernel
theorem dX1_leftAtMost_21 : decode cX1_leftAtMost 21 = .ok (.iand, 1) := by decide +kernel
theorem dX1_leftAtMost_22 : decode cX1_leftAtMost 22 = .ok (.invokestatic 126, 3) := by decide +kernel
theorem dX1_leftAtMost_25 : decode cX1_leftAtMost 25 = .ok (.istore 5, 2) := by decide +kernel
theorem dX1_leftAtMost_27 : decode cX1_leftAtMost 27 = .ok (.iload 5, 2) := by decide +kernel
theorem dX1_leftAtMost_29 : decode cX1_leftAtMost 29 = .ok (.iload_n 2, 1) := by decide +kernel
theorem dX1_leftAtMost_30 : decode cX1_leftAtMost 30 = .ok (.invokestatic 126, 3) := by decide +kernel
theorem dX1_leftAtMost_33 : decode cX1_leftAtMost 33 = .ok (.iload 5, 2) := by decide +kernel
theorem dX1_leftAtMost_35 : decode cX1_leftAtMost 35 = .ok (.isub, 1) := by decide +kernel
theorem dX1_leftAtMost_36 : decode cX1_leftAtMost 36 = .ok (.invokestatic 105, 3) := by decide +kernel
theorem dX1_leftAtMost_39 : decode cX1_leftAtMost 39 = .ok (.ireturn, 1) := by decide +kernel
theorem dX2_init_0 : decode cX2_init 0 = .ok (.aload_n 0, 1) := by decide +kernel
theorem dX2_init_1 : decode cX2_init 1 = .ok (.invokespecial 3, 3) := by decide +kernel
theorem dX2_init_4 : decode cX2_init 4 = .ok (.aload_n 0, 1) := by decide +kernel
theorem dX2_init_5 : decode cX2_init 5 = .ok (.bipush 30, 2) := by decide +kernel
theorem dX2_init_7 : decode cX2_init 7 = .ok (.newarray .int, 2) := by decide +kernel
theorem dX2_init_9 : decode cX2_init 9 = .ok (.putfield 9, 3) := by decide +kernel
theorem dX2_init_12 : decode cX2_init 12 = .ok (.aload_n 0, 1) := by decide +kernel
theorem dX2_init_13 : decode cX2_init 13 = .ok (.bipush 20, 2) := by decide +kernel
theorem dX2_init_15 : decode cX2_init 15 = .ok (.newarray .int, 2) := by decide +kernel
theorem dX2_init_17 : decode cX2_init 17 = .ok (.putfield 15, 3) := by decide +kernel
theorem dX2_init_20 : decode cX2_init 20 = .ok (.aload_n 0, 1) := by decide +kernel
theorem dX2_init_21 : decode cX2_init 21 = .ok (.bipush 20, 2) := by decide +kernel
theorem dX2_init_23 : decode cX2_init 23 = .ok (.newarray .int, 2) := by decide +kernel
theorem dX2_init_25 : decode cX2_init 25 = .ok (.putfield 18, 3) := by decide +kernel
theorem dX2_init_28 : decode cX2_init 28 = .ok (.aload_n 0, 1) := by decide +kernel
theorem dX2_init_29 : decode cX2_init 29 = .ok (.bipush 20, 2) := by decide +kernel
theorem dX2_init_31 : decode cX2_init 31 = .ok (.newarray .int, 2) := by decide +kernel
theorem dX2_init_33 : decode cX2_init 33 = .ok (.putfield 21, 3) := by decide +kernel
theorem dX2_init_36 : decode cX2_init 36 = .ok (.return_, 1) := by decide +kernel
theorem dX2_spread_0 : decode cX2_spread 0 = .ok (.aload_n 0, 1) := by decide +kernel
theorem dX2_spread_1 : decode cX2_spread 1 = .ok (.getfield 15, 3) := by decide +kernel
theorem dX2_spread_4 : decode cX2_spread 4 = .ok (.iconst 0, 1) := by decide +kernel
theorem dX2_spread_5 : decode cX2_spread 5 = .ok (.invokestatic 24, 3) := by decide +kernel
theorem dX2_spread_8 : decode cX2_spread 8 = .ok (.aload_n 0, 1) := by decide +kernel
theorem dX2_spread_9 : decode cX2_spread 9 = .ok (.getfield 18, 3) := by decide +kernel
theorem dX2_spread_12 : decode cX2_spread 12 = .ok (.iconst 0, 1) := by decide +kernel
theorem dX2_spread_13 : decode cX2_spread 13 = .ok (.invokestatic 24, 3) := by decide +kernel
theorem dX2_spread_16 : decode cX2_spread 16 = .ok (.aload_n 0, 1) := by decide +kernel
theorem dX2_spread_17 : decode cX2_spread 17 = .ok (.getfield 21, 3) := by decide +kernel
theorem dX2_spread_20 : decode cX2_spread 20 = .ok (.iconst 0, 1) := by decide +kernel
theorem dX2_spread_21 : decode cX2_spread 21 = .ok (.invokestatic 24, 3) := by decide +kernel
theorem dX2_spread_24 : decode cX2_spread 24 = .ok (.iconst 0, 1) := by decide +kernel
theorem dX2_spread_25 : decode cX2_spread 25 = .ok (.istore 4, 2) := by decide +kernel
theorem dX2_spread_27 : decode cX2_spread 27 = .ok (.iload 4, 2) := by decide +kernel
theorem dX2_spread_29 : decode cX2_spread 29 = .ok (.aload_n 1, 1) := by decide +kernel
theorem dX2_spread_30 : decode cX2_spread 30 = .ok (.getfield 30, 3) := by decide +kernel
theorem dX2_spread_33 : decode cX2_spread 33 = .ok (.if_icmp .ge 31, 3) := by decide +kernel
theorem dX2_spread_36 : decode cX2_spread 36 = .ok (.iload 4, 2) := by decide +kernel
theorem dX2_spread_38 : decode cX2_spread 38 = .ok (.iload_n 3, 1) := by decide +kernel
theorem dX2_spread_39 : decode cX2_spread 39 = .ok (.if_icmp .eq 19, 3) := by decide +kernel
theorem dX2_spread_42 : decode cX2_spread 42 = .ok (.aload_n 0, 1) := by decide +kernel
theorem dX2_spread_43 : decode cX2_spread 43 = .ok (.getfield 18, 3) := by decide +kernel
theorem dX2_spread_46 : decode cX2_spread 46 = .ok (.aload_n 1, 1) := by decide +kernel
theorem dX2_spread_47 : decode cX2_spread 47 = .ok (.getfield 36, 3) := by decide +kernel
theorem dX2_spread_50 : decode cX2_spread 50 = .ok (.iload 4, 2) := by decide +kernel
theorem dX2_spread_52 : decode cX2_spread 52 = .ok (.iaload, 1) := by decide +kernel
theorem dX2_spread_53 : decode cX2_spread 53 = .ok (.dup2, 1) := by decide +kernel
theorem dX2_spread_54 : decode cX2_spread 54 = .ok (.iaload, 1) := by decide +kernel
theorem dX2_spread_55 : decode cX2_spread 55 = .ok (.iconst 1, 1) := by decide +kernel
theorem dX2_spread_56 : decode cX2_spread 56 = .ok (.iadd, 1) := by decide +kernel
theorem dX2_spread_57 : decode cX2_spread 57 = .ok (.iastore, 1) := by decide +kernel
theorem dX2_spread_58 : decode cX2_spread 58 = .ok (.iinc 4 1, 3) := by decide +kernel
theorem dX2_spread_61 : decode cX2_spread 61 = .ok (.goto (-34), 3) := by decide +kernel
theorem dX2_spread_64 : decode cX2_spread 64 = .ok (.iconst 0, 1) := by decide +kernel
theorem dX2_spread_65 : decode cX2_spread 65 = .ok (.istore 4, 2) := by decide +kernel
theorem dX2_spread_67 : decode cX2_spread 67 = .ok (.iload 4, 2) := by decide +kernel
theorem dX2_spread_69 : decode cX2_spread 69 = .ok (.aload_n 1, 1) := by decide +kernel
theorem dX2_spread_70 : decode cX2_spread 70 = .ok (.getfield 30, 3) := by decide +kernel
theorem dX2_spread_73 : decode cX2_spread 73 = .ok (.if_icmp .ge 69, 3) := by decide +kernel
theorem dX2_spread_76 : decode cX2_spread 76 = .ok (.aload_n 2, 1) := by decide +kernel
theorem dX2_spread_77 : decode cX2_spread 77 = .ok (.iload 4, 2) := by decide +kernel
theorem dX2_spread_79 : decode cX2_spread 79 = .ok (.iaload, 1) := by decide +kernel
theorem dX2_spread_80 : decode cX2_spread 80 = .ok (.istore 5, 2) := by decide +kernel
theorem dX2_spread_82 : decode cX2_spread 82 = .ok (.iload 5, 2) := by decide +kernel
theorem dX2_spread_84 : decode cX2_spread 84 = .ok (.iload_n 3, 1) := by decide +kernel
theorem dX2_spread_85 : decode cX2_spread 85 = .ok (.if_icmp .eq 51, 3) := by decide +kernel
theorem dX2_spread_88 : decode cX2_spread 88 = .ok (.aload_n 0, 1) := by decide +kernel
theorem dX2_spread_89 : decode cX2_spread 89 = .ok (.getfield 9, 3) := by decide +kernel
theorem dX2_spread_92 : decode cX2_spread 92 = .ok (.iload 5, 2) := by decide +kernel
theorem dX2_spread_94 : decode cX2_spread 94 = .ok (.aload_n 1, 1) := by decide +kernel
theorem dX2_spread_95 : decode cX2_spread 95 = .ok (.getfield 39, 3) := by decide +kernel
theorem dX2_spread_98 : decode cX2_spread 98 = .ok (.iload 5, 2) := by decide +kernel
theorem dX2_spread_100 : decode cX2_spread 100 = .ok (.iaload, 1) := by decide +kernel
theorem dX2_spread_101 : decode cX2_spread 101 = .ok (.aload_n 0, 1) := by decide +kernel
theorem dX2_spread_102 : decode cX2_spread 102 = .ok (.aload_n 1, 1) := by decide +kernel
theorem dX2_spread_103 : decode cX2_spread 103 = .ok (.getfield 36, 3) := by decide +kernel
theorem dX2_spread_106 : decode cX2_spread 106 = .ok (.iload 5, 2) := by decide +kernel
theorem dX2_spread_108 : decode cX2_spread 108 = .ok (.iaload, 1) := by decide +kernel
theorem dX2_spread_109 : decode cX2_spread 109 = .ok (.invokevirtual 42, 3) := by decide +kernel
theorem dX2_spread_112 : decode cX2_spread 112 = .ok (.iadd, 1) := by decide +kernel
theorem dX2_spread_113 : decode cX2_spread 113 = .ok (.iastore, 1) := by decide +kernel
theorem dX2_spread_114 : decode cX2_spread 114 = .ok (.aload_n 0, 1) := by decide +kernel
theorem dX2_spread_115 : decode cX2_spread 115 = .ok (.getfield 15, 3) := by decide +kernel
theorem dX2_spread_118 : decode cX2_spread 118 = .ok (.aload_n 1, 1) := by decide +kernel
theorem dX2_spread_119 : decode cX2_spread 119 = .ok (.getfield 46, 3) := by decide +kernel
theorem dX2_spread_122 : decode cX2_spread 122 = .ok (.iload 5, 2) := by decide +kernel
theorem dX2_spread_124 : decode cX2_spread 124 = .ok (.iaload, 1) := by decide +kernel
theorem dX2_spread_125 : decode cX2_spread 125 = .ok (.dup2, 1) := by decide +kernel
theorem dX2_spread_126 : decode cX2_spread 126 = .ok (.iaload, 1) := by decide +kernel
theorem dX2_spread_127 : decode cX2_spread 127 = .ok (.aload_n 0, 1) := by decide +kernel
theorem dX2_spread_128 : decode cX2_spread 128 = .ok (.getfield 9, 3) := by decide +kernel
theorem dX2_spread_131 : decode cX2_spread 131 = .ok (.iload 5, 2) := by decide +kernel
theorem dX2_spread_133 : decode cX2_spread 133 = .ok (.iaload, 1) := by decide +kernel
theorem dX2_spread_134 : decode cX2_spread 134 = .ok (.iadd, 1) := by decide +kernel
theorem dX2_spread_135 : decode cX2_spread 135 = .ok (.iastore, 1) := by decide +kernel
theorem dX2_spread_136 : decode cX2_spread 136 = .ok (.iinc 4 1, 3) := by decide +kernel
theorem dX2_spread_139 : decode cX2_spread 139 = .ok (.goto (-72), 3) := by decide +kernel
theorem dX2_spread_142 : decode cX2_spread 142 = .ok (.return_, 1) := by decide +kernel
theorem dX2_share_0 : decode cX2_share 0 = .ok (.aload_n 0, 1) := by decide +kernel
theorem dX2_share_1 : decode cX2_share 1 = .ok (.getfield 18, 3) := by decide +kernel
theorem dX2_share_4 : decode cX2_share 4 = .ok (.iload_n 1, 1) := by decide +kernel
theorem dX2_share_5 : decode cX2_share 5 = .ok (.iaload, 1) := by decide +kernel
theorem dX2_share_6 : decode cX2_share 6 = .ok (.istore_n 2, 1) := by decide +kernel
theorem dX2_share_7 : decode cX2_share 7 = .ok (.iload_n 2, 1) := by decide +kernel
theorem dX2_share_8 : decode cX2_share 8 = .ok (.ifCond .ne 5, 3) := by decide +kernel
theorem dX2_share_11 : decode cX2_share 11 = .ok (.iconst 0, 1) := by decide +kernel
theorem dX2_share_12 : decode cX2_share 12 = .ok (.ireturn, 1) := by decide +kernel
theorem dX2_share_13 : decode cX2_share 13 = .ok (.aload_n 0, 1) := by decide +kernel
theorem dX2_share_14 : decode cX2_share 14 = .ok (.getfield 21, 3) := by decide +kernel
theorem dX2_share_17 : decode cX2_share 17 = .ok (.iload_n 1, 1) := by decide +kernel
theorem dX2_share_18 : decode cX2_share 18 = .ok (.iaload, 1) := by decide +kernel
theorem dX2_share_19 : decode cX2_share 19 = .ok (.aload_n 0, 1) := by decide +kernel
theorem dX2_share_20 : decode cX2_share 20 = .ok (.getfield 15, 3) := by decide +kernel
theorem dX2_share_23 : decode cX2_share 23 = .ok (.iload_n 1, 1) := by decide +kernel
theorem dX2_share_24 : decode cX2_share 24 = .ok (.iaload, 1) := by decide +kernel
theorem dX2_share_25 : decode cX2_share 25 = .ok (.iload_n 2, 1) := by decide +kernel
theorem dX2_share_26 : decode cX2_share 26 = .ok (.irem, 1) := by decide +kernel
theorem dX2_share_27 : decode cX2_share 27 = .ok (.if_icmp .ge 7, 3) := by decide +kernel
theorem dX2_share_30 : decode cX2_share 30 = .ok (.iconst 1, 1) := by decide +kernel
theorem dX2_share_31 : decode cX2_share 31 = .ok (.goto 4, 3) := by decide +kernel
theorem dX2_share_34 : decode cX2_share 34 = .ok (.iconst 0, 1) := by decide +kernel
theorem dX2_share_35 : decode cX2_share 35 = .ok (.istore_n 3, 1) := by decide +kernel
theorem dX2_share_36 : decode cX2_share 36 = .ok (.aload_n 0, 1) := by decide +kernel
theorem dX2_share_37 : decode cX2_share 37 = .ok (.getfield 21, 3) := by decide +kernel
theorem dX2_share_40 : decode cX2_share 40 = .ok (.iload_n 1, 1) := by decide +kernel
theorem dX2_share_41 : decode cX2_share 41 = .ok (.dup2, 1) := by decide +kernel
theorem dX2_share_42 : decode cX2_share 42 = .ok (.iaload, 1) := by decide +kernel
theorem dX2_share_43 : decode cX2_share 43 = .ok (.iconst 1, 1) := by decide +kernel
theorem dX2_share_44 : decode cX2_share 44 = .ok (.iadd, 1) := by decide +kernel
theorem dX2_share_45 : decode cX2_share 45 = .ok (.iastore, 1) := by decide +kernel
theorem dX2_share_46 : decode cX2_share 46 = .ok (.aload_n 0, 1) := by decide +kernel
theorem dX2_share_47 : decode cX2_share 47 = .ok (.getfield 15, 3) := by decide +kernel
theorem dX2_share_50 : decode cX2_share 50 = .ok (.iload_n 1, 1) := by decide +kernel
theorem dX2_share_51 : decode cX2_share 51 = .ok (.iaload, 1) := by decide +kernel
theorem dX2_share_52 : decode cX2_share 52 = .ok (.iload_n 2, 1) := by decide +kernel
theorem dX2_share_53 : decode cX2_share 53 = .ok (.idiv, 1) := by decide +kernel
theorem dX2_share_54 : decode cX2_share 54 = .ok (.iload_n 3, 1) := by decide +kernel
theorem dX2_share_55 : decode cX2_share 55 = .ok (.iadd, 1) := by decide +kernel
theorem dX2_share_56 : decode cX2_share 56 = .ok (.ireturn, 1) := by decide +kernel
theorem dX2_sumAt_0 : decode cX2_sumAt 0 = .ok (.iconst 0, 1) := by decide +kernel
theorem dX2_sumAt_1 : decode cX2_sumAt 1 = .ok (.istore_n 2, 1) := by decide +kernel
theorem dX2_sumAt_2 : decode cX2_sumAt 2 = .ok (.iconst 0, 1) := by decide +kernel
theorem dX2_sumAt_3 : decode cX2_sumAt 3 = .ok (.istore_n 3, 1) := by decide +kernel
theorem dX2_sumAt_4 : decode cX2_sumAt 4 = .ok (.iload_n 3, 1) := by decide +kernel
theorem dX2_sumAt_5 : decode cX2_sumAt 5 = .ok (.bipush 20, 2) := by decide +kernel
theorem dX2_sumAt_7 : decode cX2_sumAt 7 = .ok (.if_icmp .ge 27, 3) := by decide +kernel
theorem dX2_sumAt_10 : decode cX2_sumAt 10 = .ok (.iload_n 1, 1) := by decide +kernel
theorem dX2_sumAt_11 : decode cX2_sumAt 11 = .ok (.iload_n 3, 1) := by decide +kernel
theorem dX2_sumAt_12 : decode cX2_sumAt 12 = .ok (.ishr, 1) := by decide +kernel
theorem dX2_sumAt_13 : decode cX2_sumAt 13 = .ok (.iconst 1, 1) := by decide +kernel
theorem dX2_sumAt_14 : decode cX2_sumAt 14 = .ok (.iand, 1) := by decide +kernel
theorem dX2_sumAt_15 : decode cX2_sumAt 15 = .ok (.iconst 1, 1) := by decide +kernel
theorem dX2_sumAt_16 : decode cX2_sumAt 16 = .ok (.if_icmp .ne 12, 3) := by decide +kernel
theorem dX2_sumAt_19 : decode cX2_sumAt 19 = .ok (.iload_n 2, 1) := by decide +kernel
theorem dX2_sumAt_20 : decode cX2_sumAt 20 = .ok (.aload_n 0, 1) := by decide +kernel
theorem dX2_sumAt_21 : decode cX2_sumAt 21 = .ok (.getfield 15, 3) := by decide +kernel
theorem dX2_sumAt_24 : decode cX2_sumAt 24 = .ok (.iload_n 3, 1) := by decide +kernel
theorem dX2_sumAt_25 : decode cX2_sumAt 25 = .ok (.iaload, 1) := by decide +kernel
theorem dX2_sumAt_26 : decode cX2_sumAt 26 = .ok (.iadd, 1) := by decide +kernel
theorem dX2_sumAt_27 : decode cX2_sumAt 27 = .ok (.istore_n 2, 1) := by decide +kernel
theorem dX2_sumAt_28 : decode cX2_sumAt 28 = .ok (.iinc 3 1, 3) := by decide +kernel
theorem dX2_sumAt_31 : decode cX2_sumAt 31 = .ok (.goto (-27), 3) := by decide +kernel
theorem dX2_sumAt_34 : decode cX2_sumAt 34 = .ok (.iload_n 2, 1) := by decide +kernel
theorem dX2_sumAt_35 : decode cX2_sumAt 35 = .ok (.ireturn, 1) := by decide +kernel
theorem dX3_init_0 : decode cX3_init 0 = .ok (.aload_n 0, 1) := by decide +kernel
theorem dX3_init_1 : decode cX3_init 1 = .ok (.invokespecial 3, 3) := by decide +kernel
theorem dX3_init_4 : decode cX3_init 4 = .ok (.aload_n 0, 1) := by decide +kernel
theorem dX3_init_5 : decode cX3_init 5 = .ok (.sipush 640, 3) := by decide +kernel
theorem dX3_init_8 : decode cX3_init 8 = .ok (.newarray .int, 2) := by decide +kernel
theorem dX3_init_10 : decode cX3_init 10 = .ok (.putfield 11, 3) := by decide +kernel
theorem dX3_init_13 : decode cX3_init 13 = .ok (.return_, 1) := by decide +kernel
theorem dX3_keep_0 : decode cX3_keep 0 = .ok (.aload_n 0, 1) := by decide +kernel
theorem dX3_keep_1 : decode cX3_keep 1 = .ok (.getfield 15, 3) := by decide +kernel
theorem dX3_keep_4 : decode cX3_keep 4 = .ok (.bipush 20, 2) := by decide +kernel
theorem dX3_keep_6 : decode cX3_keep 6 = .ok (.if_icmp .ne 26, 3) := by decide +kernel
theorem dX3_keep_9 : decode cX3_keep 9 = .ok (.aload_n 0, 1) := by decide +kernel
theorem dX3_keep_10 : decode cX3_keep 10 = .ok (.aload_n 0, 1) := by decide +kernel
theorem dX3_keep_11 : decode cX3_keep 11 = .ok (.getfield 19, 3) := by decide +kernel
theorem dX3_keep_14 : decode cX3_keep 14 = .ok (.iconst 1, 1) := by decide +kernel
theorem dX3_keep_15 : decode cX3_keep 15 = .ok (.iadd, 1) := by decide +kernel
theorem dX3_keep_16 : decode cX3_keep 16 = .ok (.bipush 20, 2) := by decide +kernel
theorem dX3_keep_18 : decode cX3_keep 18 = .ok (.irem, 1) := by decide +kernel
theorem dX3_keep_19 : decode cX3_keep 19 = .ok (.putfield 19, 3) := by decide +kernel
theorem dX3_keep_22 : decode cX3_keep 22 = .ok (.aload_n 0, 1) := by decide +kernel
theorem dX3_keep_23 : decode cX3_keep 23 = .ok (.dup, 1) := by decide +kernel
theorem dX3_keep_24 : decode cX3_keep 24 = .ok (.getfield 15, 3) := by decide +kernel
theorem dX3_keep_27 : decode cX3_keep 27 = .ok (.iconst 1, 1) := by decide +kernel
theorem dX3_keep_28 : decode cX3_keep 28 = .ok (.isub, 1) := by decide +kernel
theorem dX3_keep_29 : decode cX3_keep 29 = .ok (.putfield 15, 3) := by decide +kernel
theorem dX3_keep_32 : decode cX3_keep 32 = .ok (.aload_n 0, 1) := by decide +kernel
theorem dX3_keep_33 : decode cX3_keep 33 = .ok (.getfield 19, 3) := by decide +kernel
theorem dX3_keep_36 : decode cX3_keep 36 = .ok (.aload_n 0, 1) := by decide +kernel
theorem dX3_keep_37 : decode cX3_keep 37 = .ok (.getfield 15, 3) := by decide +kernel
theorem dX3_keep_40 : decode cX3_keep 40 = .ok (.iadd, 1) := by decide +kernel
theorem dX3_keep_41 : decode cX3_keep 41 = .ok (.bipush 20, 2) := by decide +kernel
theorem dX3_keep_43 : decode cX3_keep 43 = .ok (.irem, 1) := by decide +kernel
theorem dX3_keep_44 : decode cX3_keep 44 = .ok (.bipush 32, 2) := by decide +kernel
theorem dX3_keep_46 : decode cX3_keep 46 = .ok (.imul, 1) := by decide +kernel
theorem dX3_keep_47 : decode cX3_keep 47 = .ok (.istore_n 2, 1) := by decide +kernel
theorem dX3_keep_48 : decode cX3_keep 48 = .ok (.aload_n 0, 1) := by decide +kernel
theorem dX3_keep_49 : decode cX3_keep 49 = .ok (.getfield 11, 3) := by decide +kernel
theorem dX3_keep_52 : decode cX3_keep 52 = .ok (.iload_n 2, 1) := by decide +kernel
theorem dX3_keep_53 : decode cX3_keep 53 = .ok (.aload_n 1, 1) := by decide +kernel
theorem dX3_keep_54 : decode cX3_keep 54 = .ok (.getfield 22, 3) := by decide +kernel
theorem dX3_keep_57 : decode cX3_keep 57 = .ok (.iastore, 1) := by decide +kernel
theorem dX3_keep_58 : decode cX3_keep 58 = .ok (.aload_n 0, 1) := by decide +kernel
theorem dX3_keep_59 : decode cX3_keep 59 = .ok (.getfield 11, 3) := by decide +kernel
theorem dX3_keep_62 : decode cX3_keep 62 = .ok (.iload_n 2, 1) := by decide +kernel
theorem dX3_keep_63 : decode cX3_keep 63 = .ok (.iconst 1, 1) := by decide +kernel
theorem dX3_keep_64 : decode cX3_keep 64 = .ok (.iadd, 1) := by decide +kernel
theorem dX3_keep_65 : decode cX3_keep 65 = .ok (.aload_n 1, 1) := by decide +kernel
theorem dX3_keep_66 : decode cX3_keep 66 = .ok (.getfield 27, 3) := by decide +kernel
theorem dX3_keep_69 : decode cX3_keep 69 = .ok (.iastore, 1) := by decide +kernel
theorem dX3_keep_70 : decode cX3_keep 70 = .ok (.iconst 0, 1) := by decide +kernel
theorem dX3_keep_71 : decode cX3_keep 71 = .ok (.istore_n 3, 1) := by decide +kernel
theorem dX3_keep_72 : decode cX3_keep 72 = .ok (.iload_n 3, 1) := by decide +kernel
theorem dX3_keep_73 : decode cX3_keep 73 = .ok (.aload_n 1, 1) := by decide +kernel
theorem dX3_keep_74 : decode cX3_keep 74 = .ok (.getfield 27, 3) := by decide +kernel
theorem dX3_keep_77 : decode cX3_keep 77 = .ok (.if_icmp .ge 24, 3) := by decide +kernel
theorem dX3_keep_80 : decode cX3_keep 80 = .ok (.aload_n 0, 1) := by decide +kernel
theorem dX3_keep_81 : decode cX3_keep 81 = .ok (.getfield 11, 3) := by decide +kernel
theorem dX3_keep_84 : decode cX3_keep 84 = .ok (.iload_n 2, 1) := by decide +kernel
theorem dX3_keep_85 : decode cX3_keep 85 = .ok (.iconst 2, 1) := by decide +kernel
theorem dX3_keep_86 : decode cX3_keep 86 = .ok (.iadd, 1) := by decide +kernel
theorem dX3_keep_87 : decode cX3_keep 87 = .ok (.iload_n 3, 1) := by decide +kernel
theorem dX3_keep_88 : decode cX3_keep 88 = .ok (.iadd, 1) := by decide +kernel
theorem dX3_keep_89 : decode cX3_keep 89 = .ok (.aload_n 1, 1) := by decide +kernel
theorem dX3_keep_90 : decode cX3_keep 90 = .ok (.iload_n 3, 1) := by decide +kernel
theorem dX3_keep_91 : decode cX3_keep 91 = .ok (.invokevirtual 30, 3) := by decide +kernel
theorem dX3_keep_94 : decode cX3_keep 94 = .ok (.iastore, 1) := by decide +kernel
theorem dX3_keep_95 : decode cX3_keep 95 = .ok (.iinc 3 1, 3) := by decide +kernel
theorem dX3_keep_98 : decode cX3_keep 98 = .ok (.goto (-26), 3) := by decide +kernel
theorem dX3_keep_101 : decode cX3_keep 101 = .ok (.aload_n 0, 1) := by decide +kernel
theorem dX3_keep_102 : decode cX3_keep 102 = .ok (.dup, 1) := by decide +kernel
theorem dX3_keep_103 : decode cX3_keep 103 = .ok (.getfield 15, 3) := by decide +kernel
theorem dX3_keep_106 : decode cX3_keep 106 = .ok (.iconst 1, 1) := by decide +kernel
theorem dX3_keep_107 : decode cX3_keep 107 = .ok (.iadd, 1) := by decide +kernel
theorem dX3_keep_108 : decode cX3_keep 108 = .ok (.putfield 15, 3) := by decide +kernel
theorem dX3_keep_111 : decode cX3_keep 111 = .ok (.return_, 1) := by decide +kernel
theorem dX3_restore_0 : decode cX3_restore 0 = .ok (.aload_n 0, 1) := by decide +kernel
theorem dX3_restore_1 : decode cX3_restore 1 = .ok (.dup, 1) := by decide +kernel
theorem dX3_restore_2 : decode cX3_restore 2 = .ok (.getfield 15, 3) := by decide +kernel
theorem dX3_restore_5 : decode cX3_restore 5 = .ok (.iconst 1, 1) := by decide +kernel
theorem dX3_restore_6 : decode cX3_restore 6 = .ok (.isub, 1) := by decide +kernel
theorem dX3_restore_7 : decode cX3_restore 7 = .ok (.putfield 15, 3) := by decide +kernel
theorem dX3_restore_10 : decode cX3_restore 10 = .ok (.aload_n 0, 1) := by decide +kernel
theorem dX3_restore_11 : decode cX3_restore 11 = .ok (.getfield 19, 3) := by decide +kernel
theorem dX3_restore_14 : decode cX3_restore 14 = .ok (.aload_n 0, 1) := by decide +kernel
theorem dX3_restore_15 : decode cX3_restore 15 = .ok (.getfield 15, 3) := by decide +kernel
theorem dX3_restore_18 : decode cX3_restore 18 = .ok (.iadd, 1) := by decide +kernel
theorem dX3_restore_19 : decode cX3_restore 19 = .ok (.bipush 20, 2) := by decide +kernel
theorem dX3_restore_21 : decode cX3_restore 21 = .ok (.irem, 1) := by decide +kernel
theorem dX3_restore_22 : decode cX3_restore 22 = .ok (.bipush 32, 2) := by decide +kernel
theorem dX3_restore_24 : decode cX3_restore 24 = .ok (.imul, 1) := by decide +kernel
theorem dX3_restore_25 : decode cX3_restore 25 = .ok (.istore_n 2, 1) := by decide +kernel
theorem dX3_restore_26 : decode cX3_restore 26 = .ok (.aload_n 1, 1) := by decide +kernel
theorem dX3_restore_27 : decode cX3_restore 27 = .ok (.aload_n 0, 1) := by decide +kernel
theorem dX3_restore_28 : decode cX3_restore 28 = .ok (.getfield 11, 3) := by decide +kernel
theorem dX3_restore_31 : decode cX3_restore 31 = .ok (.iload_n 2, 1) := by decide +kernel
theorem dX3_restore_32 : decode cX3_restore 32 = .ok (.iaload, 1) := by decide +kernel
theorem dX3_restore_33 : decode cX3_restore 33 = .ok (.putfield 22, 3) := by decide +kernel
theorem dX3_restore_36 : decode cX3_restore 36 = .ok (.aload_n 1, 1) := by decide +kernel
theorem dX3_restore_37 : decode cX3_restore 37 = .ok (.aload_n 0, 1) := by decide +kernel
theorem dX3_restore_38 : decode cX3_restore 38 = .ok (.getfield 11, 3) := by decide +kernel
theorem dX3_restore_41 : decode cX3_restore 41 = .ok (.iload_n 2, 1) := by decide +kernel
theorem dX3_restore_42 : decode cX3_restore 42 = .ok (.iconst 1, 1) := by decide +kernel
theorem dX3_restore_43 : decode cX3_restore 43 = .ok (.iadd, 1) := by decide +kernel
theorem dX3_restore_44 : decode cX3_restore 44 = .ok (.iaload, 1) := by decide +kernel
theorem dX3_restore_45 : decode cX3_restore 45 = .ok (.putfield 27, 3) := by decide +kernel
theorem dX3_restore_48 : decode cX3_restore 48 = .ok (.iconst 0, 1) := by decide +kernel
theorem dX3_restore_49 : decode cX3_restore 49 = .ok (.istore_n 3, 1) := by decide +kernel
theorem dX3_restore_50 : decode cX3_restore 50 = .ok (.iload_n 3, 1) := by decide +kernel
theorem dX3_restore_51 : decode cX3_restore 51 = .ok (.aload_n 1, 1) := by decide +kernel
theorem dX3_restore_52 : decode cX3_restore 52 = .ok (.getfield 27, 3) := by decide +kernel
theorem dX3_restore_55 : decode cX3_restore 55 = .ok (.if_icmp .ge 24, 3) := by decide +kernel
theorem dX3_restore_58 : decode cX3_restore 58 = .ok (.aload_n 1, 1) := by decide +kernel
theorem dX3_restore_59 : decode cX3_restore 59 = .ok (.iload_n 3, 1) := by decide +kernel
theorem dX3_restore_60 : decode cX3_restore 60 = .ok (.aload_n 0, 1) := by decide +kernel
theorem dX3_restore_61 : decode cX3_restore 61 = .ok (.getfield 11, 3) := by decide +kernel
theorem dX3_restore_64 : decode cX3_restore 64 = .ok (.iload_n 2, 1) := by decide +kernel
theorem dX3_restore_65 : decode cX3_restore 65 = .ok (.iconst 2, 1) := by decide +kernel
theorem dX3_restore_66 : decode cX3_restore 66 = .ok (.iadd, 1) := by decide +kernel
theorem dX3_restore_67 : decode cX3_restore 67 = .ok (.iload_n 3, 1) := by decide +kernel
theorem dX3_restore_68 : decode cX3_restore 68 = .ok (.iadd, 1) := by decide +kernel
theorem dX3_restore_69 : decode cX3_restore 69 = .ok (.iaload, 1) := by decide +kernel
theorem dX3_restore_70 : decode cX3_restore 70 = .ok (.invokevirtual 34, 3) := by decide +kernel
theorem dX3_restore_73 : decode cX3_restore 73 = .ok (.iinc 3 1, 3) := by decide +kernel
theorem dX3_restore_76 : decode cX3_restore 76 = .ok (.goto (-26), 3) := by decide +kernel
theorem dX3_restore_79 : decode cX3_restore 79 = .ok (.return_, 1) := by decide +kernel
theorem dX4_init_0 : decode cX4_init 0 = .ok (.aload_n 0, 1) := by decide +kernel
theorem dX4_init_1 : decode cX4_init 1 = .ok (.invokespecial 3, 3) := by decide +kernel
theorem dX4_init_4 : decode cX4_init 4 = .ok (.aload_n 0, 1) := by decide +kernel
theorem dX4_init_5 : decode cX4_init 5 = .ok (.sipush 153, 3) := by decide +kernel
theorem dX4_init_8 : decode cX4_init 8 = .ok (.newarray .int, 2) := by decide +kernel
theorem dX4_init_10 : decode cX4_init 10 = .ok (.putfield 9, 3) := by decide +kernel
theorem dX4_init_13 : decode cX4_init 13 = .ok (.return_, 1) := by decide +kernel
theorem dX4_write_0 : decode cX4_write 0 = .ok (.aload_n 0, 1) := by decide +kernel
theorem dX4_write_1 : decode cX4_write 1 = .ok (.getfield 9, 3) := by decide +kernel
theorem dX4_write_4 : decode cX4_write 4 = .ok (.iconst 0, 1) := by decide +kernel
theorem dX4_write_5 : decode cX4_write 5 = .ok (.aload_n 1, 1) := by decide +kernel
theorem dX4_write_6 : decode cX4_write 6 = .ok (.getfield 15, 3) := by decide +kernel
theorem dX4_write_9 : decode cX4_write 9 = .ok (.iastore, 1) := by decide +kernel
theorem dX4_write_10 : decode cX4_write 10 = .ok (.aload_n 0, 1) := by decide +kernel
theorem dX4_write_11 : decode cX4_write 11 = .ok (.getfield 9, 3) := by decide +kernel
theorem dX4_write_14 : decode cX4_write 14 = .ok (.iconst 1, 1) := by decide +kernel
theorem dX4_write_15 : decode cX4_write 15 = .ok (.aload_n 1, 1) := by decide +kernel
theorem dX4_write_16 : decode cX4_write 16 = .ok (.getfield 21, 3) := by decide +kernel
theorem dX4_write_19 : decode cX4_write 19 = .ok (.iastore, 1) := by decide +kernel
theorem dX4_write_20 : decode cX4_write 20 = .ok (.iconst 2, 1) := by decide +kernel
theorem dX4_write_21 : decode cX4_write 21 = .ok (.istore_n 2, 1) := by decide +kernel
theorem dX4_write_22 : decode cX4_write 22 = .ok (.iconst 0, 1) := by decide +kernel
theorem dX4_write_23 : decode cX4_write 23 = .ok (.istore_n 3, 1) := by decide +kernel
theorem dX4_write_24 : decode cX4_write 24 = .ok (.iload_n 3, 1) := by decide +kernel
theorem dX4_write_25 : decode cX4_write 25 = .ok (.aload_n 1, 1) := by decide +kernel
theorem dX4_write_26 : decode cX4_write 26 = .ok (.getfield 21, 3) := by decide +kernel
theorem dX4_write_29 : decode cX4_write 29 = .ok (.if_icmp .ge 96, 3) := by decide +kernel
theorem dX4_write_32 : decode cX4_write 32 = .ok (.aload_n 0, 1) := by decide +kernel
theorem dX4_write_33 : decode cX4_write 33 = .ok (.getfield 9, 3) := by decide +kernel
theorem dX4_write_36 : decode cX4_write 36 = .ok (.iload_n 2, 1) := by decide +kernel
theorem dX4_write_37 : decode cX4_write 37 = .ok (.aload_n 1, 1) := by decide +kernel
theorem dX4_write_38 : decode cX4_write 38 = .ok (.getfield 24, 3) := by decide +kernel
theorem dX4_write_41 : decode cX4_write 41 = .ok (.iload_n 3, 1) := by decide +kernel
theorem dX4_write_42 : decode cX4_write 42 = .ok (.iaload, 1) := by decide +kernel
theorem dX4_write_43 : decode cX4_write 43 = .ok (.iastore, 1) := by decide +kernel
theorem dX4_write_44 : decode cX4_write 44 = .ok (.aload_n 0, 1) := by decide +kernel
theorem dX4_write_45 : decode cX4_write 45 = .ok (.getfield 9, 3) := by decide +kernel
theorem dX4_write_48 : decode cX4_write 48 = .ok (.iload_n 2, 1) := by decide +kernel
theorem dX4_write_49 : decode cX4_write 49 = .ok (.iconst 1, 1) := by decide +kernel
theorem dX4_write_50 : decode cX4_write 50 = .ok (.iadd, 1) := by decide +kernel
theorem dX4_write_51 : decode cX4_write 51 = .ok (.aload_n 1, 1) := by decide +kernel
theorem dX4_write_52 : decode cX4_write 52 = .ok (.getfield 27, 3) := by decide +kernel
theorem dX4_write_55 : decode cX4_write 55 = .ok (.iload_n 3, 1) := by decide +kernel
theorem dX4_write_56 : decode cX4_write 56 = .ok (.iaload, 1) := by decide +kernel
theorem dX4_write_57 : decode cX4_write 57 = .ok (.iastore, 1) := by decide +kernel
theorem dX4_write_58 : decode cX4_write 58 = .ok (.aload_n 0, 1) := by decide +kernel
theorem dX4_write_59 : decode cX4_write 59 = .ok (.getfield 9, 3) := by decide +kernel
theorem dX4_write_62 : decode cX4_write 62 = .ok (.iload_n 2, 1) := by decide +kernel
theorem dX4_write_63 : decode cX4_write 63 = .ok (.iconst 2, 1) := by decide +kernel
theorem dX4_write_64 : decode cX4_write 64 = .ok (.iadd, 1) := by decide +kernel
theorem dX4_write_65 : decode cX4_write 65 = .ok (.aload_n 1, 1) := by decide +kernel
theorem dX4_write_66 : decode cX4_write 66 = .ok (.getfield 30, 3) := by decide +kernel
theorem dX4_write_69 : decode cX4_write 69 = .ok (.iload_n 3, 1) := by decide +kernel
theorem dX4_write_70 : decode cX4_write 70 = .ok (.iaload, 1) := by decide +kernel
theorem dX4_write_71 : decode cX4_write 71 = .ok (.iastore, 1) := by decide +kernel
theorem dX4_write_72 : decode cX4_write 72 = .ok (.aload_n 0, 1) := by decide +kernel
theorem dX4_write_73 : decode cX4_write 73 = .ok (.getfield 9, 3) := by decide +kernel
theorem dX4_write_76 : decode cX4_write 76 = .ok (.iload_n 2, 1) := by decide +kernel
theorem dX4_write_77 : decode cX4_write 77 = .ok (.iconst 3, 1) := by decide +kernel
theorem dX4_write_78 : decode cX4_write 78 = .ok (.iadd, 1) := by decide +kernel
theorem dX4_write_79 : decode cX4_write 79 = .ok (.aload_n 1, 1) := by decide +kernel
theorem dX4_write_80 : decode cX4_write 80 = .ok (.getfield 33, 3) := by decide +kernel
theorem dX4_write_83 : decode cX4_write 83 = .ok (.iload_n 3, 1) := by decide +kernel
theorem dX4_write_84 : decode cX4_write 84 = .ok (.iaload, 1) := by decide +kernel
theorem dX4_write_85 : decode cX4_write 85 = .ok (.iastore, 1) := by decide +kernel
theorem dX4_write_86 : decode cX4_write 86 = .ok (.aload_n 0, 1) := by decide +kernel
theorem dX4_write_87 : decode cX4_write 87 = .ok (.getfield 9, 3) := by decide +kernel
theorem dX4_write_90 : decode cX4_write 90 = .ok (.iload_n 2, 1) := by decide +kernel
theorem dX4_write_91 : decode cX4_write 91 = .ok (.iconst 4, 1) := by decide +kernel
theorem dX4_write_92 : decode cX4_write 92 = .ok (.iadd, 1) := by decide +kernel
theorem dX4_write_93 : decode cX4_write 93 = .ok (.aload_n 1, 1) := by decide +kernel
theorem dX4_write_94 : decode cX4_write 94 = .ok (.getfield 36, 3) := by decide +kernel
theorem dX4_write_97 : decode cX4_write 97 = .ok (.iload_n 3, 1) := by decide +kernel
theorem dX4_write_98 : decode cX4_write 98 = .ok (.iaload, 1) := by decide +kernel
theorem dX4_write_99 : decode cX4_write 99 = .ok (.iconst (-1), 1) := by decide +kernel
theorem dX4_write_100 : decode cX4_write 100 = .ok (.if_icmp .ne 9, 3) := by decide +kernel
theorem dX4_write_103 : decode cX4_write 103 = .ok (.sipush 255, 3) := by decide +kernel
theorem dX4_write_106 : decode cX4_write 106 = .ok (.goto 9, 3) := by decide +kernel
theorem dX4_write_109 : decode cX4_write 109 = .ok (.aload_n 1, 1) := by decide +kernel
theorem dX4_write_110 : decode cX4_write 110 = .ok (.getfield 36, 3) := by decide +kernel
theorem dX4_write_113 : decode cX4_write 113 = .ok (.iload_n 3, 1) := by decide +kernel
theorem dX4_write_114 : decode cX4_write 114 = .ok (.iaload, 1) := by decide +kernel
theorem dX4_write_115 : decode cX4_write 115 = .ok (.iastore, 1) := by decide +kernel
theorem dX4_write_116 : decode cX4_write 116 = .ok (.iinc 2 5, 3) := by decide +kernel
theorem dX4_write_119 : decode cX4_write 119 = .ok (.iinc 3 1, 3) := by decide +kernel
theorem dX4_write_122 : decode cX4_write 122 = .ok (.goto (-98), 3) := by decide +kernel
theorem dX4_write_125 : decode cX4_write 125 = .ok (.sipush 191, 3) := by decide +kernel
theorem dX4_write_128 : decode cX4_write 128 = .ok (.istore_n 3, 1) := by decide +kernel
theorem dX4_write_129 : decode cX4_write 129 = .ok (.iconst 0, 1) := by decide +kernel
theorem dX4_write_130 : decode cX4_write 130 = .ok (.istore 4, 2) := by decide +kernel
theorem dX4_write_132 : decode cX4_write 132 = .ok (.iload 4, 2) := by decide +kernel
theorem dX4_write_134 : decode cX4_write 134 = .ok (.iload_n 2, 1) := by decide +kernel
theorem dX4_write_135 : decode cX4_write 135 = .ok (.if_icmp .ge 25, 3) := by decide +kernel
theorem dX4_write_138 : decode cX4_write 138 = .ok (.iconst 3, 1) := by decide +kernel
theorem dX4_write_139 : decode cX4_write 139 = .ok (.iload_n 3, 1) := by decide +kernel
theorem dX4_write_140 : decode cX4_write 140 = .ok (.imul, 1) := by decide +kernel
theorem dX4_write_141 : decode cX4_write 141 = .ok (.aload_n 0, 1) := by decide +kernel
theorem dX4_write_142 : decode cX4_write 142 = .ok (.getfield 9, 3) := by decide +kernel
theorem dX4_write_145 : decode cX4_write 145 = .ok (.iload 4, 2) := by decide +kernel
theorem dX4_write_147 : decode cX4_write 147 = .ok (.iaload, 1) := by decide +kernel
theorem dX4_write_148 : decode cX4_write 148 = .ok (.iadd, 1) := by decide +kernel
theorem dX4_write_149 : decode cX4_write 149 = .ok (.sipush 251, 3) := by decide +kernel
theorem dX4_write_152 : decode cX4_write 152 = .ok (.irem, 1) := by decide +kernel
theorem dX4_write_153 : decode cX4_write 153 = .ok (.istore_n 3, 1) := by decide +kernel
theorem dX4_write_154 : decode cX4_write 154 = .ok (.iinc 4 1, 3) := by decide +kernel
theorem dX4_write_157 : decode cX4_write 157 = .ok (.goto (-25), 3) := by decide +kernel
theorem dX4_write_160 : decode cX4_write 160 = .ok (.aload_n 0, 1) := by decide +kernel
theorem dX4_write_161 : decode cX4_write 161 = .ok (.getfield 9, 3) := by decide +kernel
theorem dX4_write_164 : decode cX4_write 164 = .ok (.iload_n 2, 1) := by decide +kernel
theorem dX4_write_165 : decode cX4_write 165 = .ok (.iload_n 3, 1) := by decide +kernel
theorem dX4_write_166 : decode cX4_write 166 = .ok (.iastore, 1) := by decide +kernel
theorem dX4_write_167 : decode cX4_write 167 = .ok (.aload_n 0, 1) := by decide +kernel
theorem dX4_write_168 : decode cX4_write 168 = .ok (.iload_n 2, 1) := by decide +kernel
theorem dX4_write_169 : decode cX4_write 169 = .ok (.iconst 1, 1) := by decide +kernel
theorem dX4_write_170 : decode cX4_write 170 = .ok (.iadd, 1) := by decide +kernel
theorem dX4_write_171 : decode cX4_write 171 = .ok (.putfield 39, 3) := by decide +kernel
theorem dX4_write_174 : decode cX4_write 174 = .ok (.return_, 1) := by decide +kernel
theorem dX4_read_0 : decode cX4_read 0 = .ok (.aload_n 0, 1) := by decide +kernel
theorem dX4_read_1 : decode cX4_read 1 = .ok (.iconst 0, 1) := by decide +kernel
theorem dX4_read_2 : decode cX4_read 2 = .ok (.invokevirtual 42, 3) := by decide +kernel
theorem dX4_read_5 : decode cX4_read 5 = .ok (.istore_n 3, 1) := by decide +kernel
theorem dX4_read_6 : decode cX4_read 6 = .ok (.aload_n 0, 1) := by decide +kernel
theorem dX4_read_7 : decode cX4_read 7 = .ok (.iconst 1, 1) := by decide +kernel
theorem dX4_read_8 : decode cX4_read 8 = .ok (.invokevirtual 42, 3) := by decide +kernel
theorem dX4_read_11 : decode cX4_read 11 = .ok (.istore 4, 2) := by decide +kernel
theorem dX4_read_13 : decode cX4_read 13 = .ok (.iload_n 3, 1) := by decide +kernel
theorem dX4_read_14 : decode cX4_read 14 = .ok (.iconst 1, 1) := by decide +kernel
theorem dX4_read_15 : decode cX4_read 15 = .ok (.if_icmp .lt 43, 3) := by decide +kernel
theorem dX4_read_18 : decode cX4_read 18 = .ok (.iload_n 3, 1) := by decide +kernel
theorem dX4_read_19 : decode cX4_read 19 = .ok (.bipush 20, 2) := by decide +kernel
theorem dX4_read_21 : decode cX4_read 21 = .ok (.if_icmp .gt 37, 3) := by decide +kernel
theorem dX4_read_24 : decode cX4_read 24 = .ok (.iload 4, 2) := by decide +kernel
theorem dX4_read_26 : decode cX4_read 26 = .ok (.ifCond .lt 32, 3) := by decide +kernel
theorem dX4_read_29 : decode cX4_read 29 = .ok (.iload 4, 2) := by decide +kernel
theorem dX4_read_31 : decode cX4_read 31 = .ok (.bipush 30, 2) := by decide +kernel
theorem dX4_read_33 : decode cX4_read 33 = .ok (.if_icmp .gt 25, 3) := by decide +kernel
theorem dX4_read_36 : decode cX4_read 36 = .ok (.aload_n 0, 1) := by decide +kernel
theorem dX4_read_37 : decode cX4_read 37 = .ok (.getfield 48, 3) := by decide +kernel
theorem dX4_read_40 : decode cX4_read 40 = .ok (.iconst 2, 1) := by decide +kernel
theorem dX4_read_41 : decode cX4_read 41 = .ok (.iconst 5, 1) := by decide +kernel
theorem dX4_read_42 : decode cX4_read 42 = .ok (.iload 4, 2) := by decide +kernel
theorem dX4_read_44 : decode cX4_read 44 = .ok (.imul, 1) := by decide +kernel
theorem dX4_read_45 : decode cX4_read 45 = .ok (.iadd, 1) := by decide +kernel
theorem dX4_read_46 : decode cX4_read 46 = .ok (.iconst 1, 1) := by decide +kernel
theorem dX4_read_47 : decode cX4_read 47 = .ok (.iadd, 1) := by decide +kernel
theorem dX4_read_48 : decode cX4_read 48 = .ok (.if_icmp .ne 10, 3) := by decide +kernel
theorem dX4_read_51 : decode cX4_read 51 = .ok (.aload_n 0, 1) := by decide +kernel
theorem dX4_read_52 : decode cX4_read 52 = .ok (.invokestatic 49, 3) := by decide +kernel
theorem dX4_read_55 : decode cX4_read 55 = .ok (.ifCond .ne 5, 3) := by decide +kernel
theorem dX4_read_58 : decode cX4_read 58 = .ok (.iconst 0, 1) := by decide +kernel
theorem dX4_read_59 : decode cX4_read 59 = .ok (.ireturn, 1) := by decide +kernel
theorem dX4_read_60 : decode cX4_read 60 = .ok (.aload_n 1, 1) := by decide +kernel
theorem dX4_read_61 : decode cX4_read 61 = .ok (.iload_n 3, 1) := by decide +kernel
theorem dX4_read_62 : decode cX4_read 62 = .ok (.putfield 15, 3) := by decide +kernel
theorem dX4_read_65 : decode cX4_read 65 = .ok (.aload_n 1, 1) := by decide +kernel
theorem dX4_read_66 : decode cX4_read 66 = .ok (.iconst 0, 1) := by decide +kernel
theorem dX4_read_67 : decode cX4_read 67 = .ok (.putfield 21, 3) := by decide +kernel
theorem dX4_read_70 : decode cX4_read 70 = .ok (.iconst 0, 1) := by decide +kernel
theorem dX4_read_71 : decode cX4_read 71 = .ok (.istore 5, 2) := by decide +kernel
theorem dX4_read_73 : decode cX4_read 73 = .ok (.iload 5, 2) := by decide +kernel
theorem dX4_read_75 : decode cX4_read 75 = .ok (.iload 4, 2) := by decide +kernel
theorem dX4_read_77 : decode cX4_read 77 = .ok (.if_icmp .ge 26, 3) := by decide +kernel
theorem dX4_read_80 : decode cX4_read 80 = .ok (.aload_n 0, 1) := by decide +kernel
theorem dX4_read_81 : decode cX4_read 81 = .ok (.iconst 2, 1) := by decide +kernel
theorem dX4_read_82 : decode cX4_read 82 = .ok (.iconst 5, 1) := by decide +kernel
theorem dX4_read_83 : decode cX4_read 83 = .ok (.iload 5, 2) := by decide +kernel
theorem dX4_read_85 : decode cX4_read 85 = .ok (.imul, 1) := by decide +kernel
theorem dX4_read_86 : decode cX4_read 86 = .ok (.iadd, 1) := by decide +kernel
theorem dX4_read_87 : decode cX4_read 87 = .ok (.aload_n 1, 1) := by decide +kernel
theorem dX4_read_88 : decode cX4_read 88 = .ok (.iload_n 2, 1) := by decide +kernel
theorem dX4_read_89 : decode cX4_read 89 = .ok (.invokestatic 53, 3) := by decide +kernel
theorem dX4_read_92 : decode cX4_read 92 = .ok (.ifCond .ne 5, 3) := by decide +kernel
theorem dX4_read_95 : decode cX4_read 95 = .ok (.iconst 0, 1) := by decide +kernel
theorem dX4_read_96 : decode cX4_read 96 = .ok (.ireturn, 1) := by decide +kernel
theorem dX4_read_97 : decode cX4_read 97 = .ok (.iinc 5 1, 3) := by decide +kernel
theorem dX4_read_100 : decode cX4_read 100 = .ok (.goto (-27), 3) := by decide +kernel
theorem dX4_read_103 : decode cX4_read 103 = .ok (.iconst 1, 1) := by decide +kernel
theorem dX4_read_104 : decode cX4_read 104 = .ok (.ireturn, 1) := by decide +kernel
theorem dX4_isChecked_0 : decode cX4_isChecked 0 = .ok (.sipush 191, 3) := by decide +kernel
theorem dX4_isChecked_3 : decode cX4_isChecked 3 = .ok (.istore_n 1, 1) := by decide +kernel
theorem dX4_isChecked_4 : decode cX4_isChecked 4 = .ok (.iconst 0, 1) := by decide +kernel
theorem dX4_isChecked_5 : decode cX4_isChecked 5 = .ok (.istore_n 2, 1) := by decide +kernel
theorem dX4_isChecked_6 : decode cX4_isChecked 6 = .ok (.iload_n 2, 1) := by decide +kernel
theorem dX4_isChecked_7 : decode cX4_isChecked 7 = .ok (.aload_n 0, 1) := by decide +kernel
theorem dX4_isChecked_8 : decode cX4_isChecked 8 = .ok (.getfield 48, 3) := by decide +kernel
theorem dX4_isChecked_11 : decode cX4_isChecked 11 = .ok (.iconst 1, 1) := by decide +kernel
theorem dX4_isChecked_12 : decode cX4_isChecked 12 = .ok (.isub, 1) := by decide +kernel
theorem dX4_isChecked_13 : decode cX4_isChecked 13 = .ok (.if_icmp .ge 23, 3) := by decide +kernel
theorem dX4_isChecked_16 : decode cX4_isChecked 16 = .ok (.iconst 3, 1) := by decide +kernel
theorem dX4_isChecked_17 : decode cX4_isChecked 17 = .ok (.iload_n 1, 1) := by decide +kernel
theorem dX4_isChecked_18 : decode cX4_isChecked 18 = .ok (.imul, 1) := by decide +kernel
theorem dX4_isChecked_19 : decode cX4_isChecked 19 = .ok (.aload_n 0, 1) := by decide +kernel
theorem dX4_isChecked_20 : decode cX4_isChecked 20 = .ok (.iload_n 2, 1) := by decide +kernel
theorem dX4_isChecked_21 : decode cX4_isChecked 21 = .ok (.invokevirtual 42, 3) := by decide +kernel
theorem dX4_isChecked_24 : decode cX4_isChecked 24 = .ok (.iadd, 1) := by decide +kernel
theorem dX4_isChecked_25 : decode cX4_isChecked 25 = .ok (.sipush 251, 3) := by decide +kernel
theorem dX4_isChecked_28 : decode cX4_isChecked 28 = .ok (.irem, 1) := by decide +kernel
theorem dX4_isChecked_29 : decode cX4_isChecked 29 = .ok (.istore_n 1, 1) := by decide +kernel
theorem dX4_isChecked_30 : decode cX4_isChecked 30 = .ok (.iinc 2 1, 3) := by decide +kernel
theorem dX4_isChecked_33 : decode cX4_isChecked 33 = .ok (.goto (-27), 3) := by decide +kernel
theorem dX4_isChecked_36 : decode cX4_isChecked 36 = .ok (.aload_n 0, 1) := by decide +kernel
theorem dX4_isChecked_37 : decode cX4_isChecked 37 = .ok (.aload_n 0, 1) := by decide +kernel
theorem dX4_isChecked_38 : decode cX4_isChecked 38 = .ok (.getfield 48, 3) := by decide +kernel
theorem dX4_isChecked_41 : decode cX4_isChecked 41 = .ok (.iconst 1, 1) := by decide +kernel
theorem dX4_isChecked_42 : decode cX4_isChecked 42 = .ok (.isub, 1) := by decide +kernel
theorem dX4_isChecked_43 : decode cX4_isChecked 43 = .ok (.invokevirtual 42, 3) := by decide +kernel
theorem dX4_isChecked_46 : decode cX4_isChecked 46 = .ok (.iload_n 1, 1) := by decide +kernel
theorem dX4_isChecked_47 : decode cX4_isChecked 47 = .ok (.if_icmp .ne 7, 3) := by decide +kernel
theorem dX4_isChecked_50 : decode cX4_isChecked 50 = .ok (.iconst 1, 1) := by decide +kernel
theorem dX4_isChecked_51 : decode cX4_isChecked 51 = .ok (.goto 4, 3) := by decide +kernel
theorem dX4_isChecked_54 : decode cX4_isChecked 54 = .ok (.iconst 0, 1) := by decide +kernel
theorem dX4_isChecked_55 : decode cX4_isChecked 55 = .ok (.ireturn, 1) := by decide +kernel
theorem dX4_readReach_0 : decode cX4_readReach 0 = .ok (.aload_n 0, 1) := by decide +kernel
theorem dX4_readReach_1 : decode cX4_readReach 1 = .ok (.iload_n 1, 1) := by decide +kernel
theorem dX4_readReach_2 : decode cX4_readReach 2 = .ok (.iconst 4, 1) := by decide +kernel
theorem dX4_readReach_3 : decode cX4_readReach 3 = .ok (.iadd, 1) := by decide +kernel
theorem dX4_readReach_4 : decode cX4_readReach 4 = .ok (.invokevirtual 42, 3) := by decide +kernel
theorem dX4_readReach_7 : decode cX4_readReach 7 = .ok (.istore 4, 2) := by decide +kernel
theorem dX4_readReach_9 : decode cX4_readReach 9 = .ok (.iload 4, 2) := by decide +kernel
theorem dX4_readReach_11 : decode cX4_readReach 11 = .ok (.sipush 255, 3) := by decide +kernel
theorem dX4_readReach_14 : decode cX4_readReach 14 = .ok (.if_icmp .eq 9, 3) := by decide +kernel
theorem dX4_readReach_17 : decode cX4_readReach 17 = .ok (.iload 4, 2) := by decide +kernel
theorem dX4_readReach_19 : decode cX4_readReach 19 = .ok (.iload_n 3, 1) := by decide +kernel
theorem dX4_readReach_20 : decode cX4_readReach 20 = .ok (.if_icmp .ge 36, 3) := by decide +kernel
theorem dX4_readReach_23 : decode cX4_readReach 23 = .ok (.aload_n 2, 1) := by decide +kernel
theorem dX4_readReach_24 : decode cX4_readReach 24 = .ok (.aload_n 0, 1) := by decide +kernel
theorem dX4_readReach_25 : decode cX4_readReach 25 = .ok (.iload_n 1, 1) := by decide +kernel
theorem dX4_readReach_26 : decode cX4_readReach 26 = .ok (.invokevirtual 42, 3) := by decide +kernel
theorem dX4_readReach_29 : decode cX4_readReach 29 = .ok (.aload_n 0, 1) := by decide +kernel
theorem dX4_readReach_30 : decode cX4_readReach 30 = .ok (.iload_n 1, 1) := by decide +kernel
theorem dX4_readReach_31 : decode cX4_readReach 31 = .ok (.iconst 1, 1) := by decide +kernel
theorem dX4_readReach_32 : decode cX4_readReach 32 = .ok (.iadd, 1) := by decide +kernel
theorem dX4_readReach_33 : decode cX4_readReach 33 = .ok (.invokevirtual 42, 3) := by decide +kernel
theorem dX4_readReach_36 : decode cX4_readReach 36 = .ok (.aload_n 0, 1) := by decide +kernel
theorem dX4_readReach_37 : decode cX4_readReach 37 = .ok (.iload_n 1, 1) := by decide +kernel
theorem dX4_readReach_38 : decode cX4_readReach 38 = .ok (.iconst 2, 1) := by decide +kernel
theorem dX4_readReach_39 : decode cX4_readReach 39 = .ok (.iadd, 1) := by decide +kernel
theorem dX4_readReach_40 : decode cX4_readReach 40 = .ok (.invokevirtual 42, 3) := by decide +kernel
theorem dX4_readReach_43 : decode cX4_readReach 43 = .ok (.aload_n 0, 1) := by decide +kernel
theorem dX4_readReach_44 : decode cX4_readReach 44 = .ok (.iload_n 1, 1) := by decide +kernel
theorem dX4_readReach_45 : decode cX4_readReach 45 = .ok (.iconst 3, 1) := by decide +kernel
theorem dX4_readReach_46 : decode cX4_readReach 46 = .ok (.iadd, 1) := by decide +kernel
theorem dX4_readReach_47 : decode cX4_readReach 47 = .ok (.invokevirtual 42, 3) := by decide +kernel
theorem dX4_readReach_50 : decode cX4_readReach 50 = .ok (.invokevirtual 57, 3) := by decide +kernel
theorem dX4_readReach_53 : decode cX4_readReach 53 = .ok (.ifCond .ne 5, 3) := by decide +kernel
theorem dX4_readReach_56 : decode cX4_readReach 56 = .ok (.iconst 0, 1) := by decide +kernel
theorem dX4_readReach_57 : decode cX4_readReach 57 = .ok (.ireturn, 1) := by decide +kernel
theorem dX4_readReach_58 : decode cX4_readReach 58 = .ok (.aload_n 2, 1) := by decide +kernel
theorem dX4_readReach_59 : decode cX4_readReach 59 = .ok (.aload_n 0, 1) := by decide +kernel
theorem dX4_readReach_60 : decode cX4_readReach 60 = .ok (.iload_n 1, 1) := by decide +kernel
theorem dX4_readReach_61 : decode cX4_readReach 61 = .ok (.invokevirtual 42, 3) := by decide +kernel
theorem dX4_readReach_64 : decode cX4_readReach 64 = .ok (.aload_n 0, 1) := by decide +kernel
theorem dX4_readReach_65 : decode cX4_readReach 65 = .ok (.iload_n 1, 1) := by decide +kernel
theorem dX4_readReach_66 : decode cX4_readReach 66 = .ok (.iconst 1, 1) := by decide +kernel
theorem dX4_readReach_67 : decode cX4_readReach 67 = .ok (.iadd, 1) := by decide +kernel
theorem dX4_readReach_68 : decode cX4_readReach 68 = .ok (.invokevirtual 42, 3) := by decide +kernel
theorem dX4_readReach_71 : decode cX4_readReach 71 = .ok (.aload_n 0, 1) := by decide +kernel
theorem dX4_readReach_72 : decode cX4_readReach 72 = .ok (.iload_n 1, 1) := by decide +kernel
theorem dX4_readReach_73 : decode cX4_readReach 73 = .ok (.iconst 2, 1) := by decide +kernel
theorem dX4_readReach_74 : decode cX4_readReach 74 = .ok (.iadd, 1) := by decide +kernel
theorem dX4_readReach_75 : decode cX4_readReach 75 = .ok (.invokevirtual 42, 3) := by decide +kernel
theorem dX4_readReach_78 : decode cX4_readReach 78 = .ok (.aload_n 0, 1) := by decide +kernel
theorem dX4_readReach_79 : decode cX4_readReach 79 = .ok (.iload_n 1, 1) := by decide +kernel
theorem dX4_readReach_80 : decode cX4_readReach 80 = .ok (.iconst 3, 1) := by decide +kernel
theorem dX4_readReach_81 : decode cX4_readReach 81 = .ok (.iadd, 1) := by decide +kernel
theorem dX4_readReach_82 : decode cX4_readReach 82 = .ok (.invokevirtual 42, 3) := by decide +kernel
theorem dX4_readReach_85 : decode cX4_readReach 85 = .ok (.iload 4, 2) := by decide +kernel
theorem dX4_readReach_87 : decode cX4_readReach 87 = .ok (.sipush 255, 3) := by decide +kernel
theorem dX4_readReach_90 : decode cX4_readReach 90 = .ok (.if_icmp .ne 7, 3) := by decide +kernel
theorem dX4_readReach_93 : decode cX4_readReach 93 = .ok (.iconst (-1), 1) := by decide +kernel
theorem dX4_readReach_94 : decode cX4_readReach 94 = .ok (.goto 5, 3) := by decide +kernel
theorem dX4_readReach_97 : decode cX4_readReach 97 = .ok (.iload 4, 2) := by decide +kernel
theorem dX4_readReach_99 : decode cX4_readReach 99 = .ok (.invokevirtual 61, 3) := by decide +kernel
theorem dX4_readReach_102 : decode cX4_readReach 102 = .ok (.iconst 1, 1) := by decide +kernel
theorem dX4_readReach_103 : decode cX4_readReach 103 = .ok (.ireturn, 1) := by decide +kernel
theorem dX5_init_0 : decode cX5_init 0 = .ok (.aload_n 0, 1) := by decide +kernel
theorem dX5_init_1 : decode cX5_init 1 = .ok (.invokespecial 3, 3) := by decide +kernel
theorem dX5_init_4 : decode cX5_init 4 = .ok (.aload_n 0, 1) := by decide +kernel
theorem dX5_init_5 : decode cX5_init 5 = .ok (.bipush 30, 2) := by decide +kernel
theorem dX5_init_7 : decode cX5_init 7 = .ok (.newarray .int, 2) := by decide +kernel
theorem dX5_init_9 : decode cX5_init 9 = .ok (.putfield 9, 3) := by decide +kernel
theorem dX5_init_12 : decode cX5_init 12 = .ok (.aload_n 0, 1) := by decide +kernel
theorem dX5_init_13 : decode cX5_init 13 = .ok (.bipush 30, 2) := by decide +kernel
theorem dX5_init_15 : decode cX5_init 15 = .ok (.newarray .int, 2) := by decide +kernel
theorem dX5_init_17 : decode cX5_init 17 = .ok (.putfield 15, 3) := by decide +kernel
theorem dX5_init_20 : decode cX5_init 20 = .ok (.aload_n 0, 1) := by decide +kernel
theorem dX5_init_21 : decode cX5_init 21 = .ok (.bipush 30, 2) := by decide +kernel
theorem dX5_init_23 : decode cX5_init 23 = .ok (.newarray .int, 2) := by decide +kernel
theorem dX5_init_25 : decode cX5_init 25 = .ok (.putfield 18, 3) := by decide +kernel
theorem dX5_init_28 : decode cX5_init 28 = .ok (.aload_n 0, 1) := by decide +kernel
theorem dX5_init_29 : decode cX5_init 29 = .ok (.bipush 30, 2) := by decide +kernel
theorem dX5_init_31 : decode cX5_init 31 = .ok (.newarray .int, 2) := by decide +kernel
theorem dX5_init_33 : decode cX5_init 33 = .ok (.putfield 21, 3) := by decide +kernel
theorem dX5_init_36 : decode cX5_init 36 = .ok (.aload_n 0, 1) := by decide +kernel
theorem dX5_init_37 : decode cX5_init 37 = .ok (.bipush 30, 2) := by decide +kernel
theorem dX5_init_39 : decode cX5_init 39 = .ok (.newarray .int, 2) := by decide +kernel
theorem dX5_init_41 : decode cX5_init 41 = .ok (.putfield 24, 3) := by decide +kernel
theorem dX5_init_44 : decode cX5_init 44 = .ok (.return_, 1) := by decide +kernel
theorem dX5_isPlace_0 : decode cX5_isPlace 0 = .ok (.iload_n 1, 1) := by decide +kernel
theorem dX5_isPlace_1 : decode cX5_isPlace 1 = .ok (.ifCond .lt 15, 3) := by decide +kernel
theorem dX5_isPlace_4 : decode cX5_isPlace 4 = .ok (.iload_n 1, 1) := by decide +kernel
theorem dX5_isPlace_5 : decode cX5_isPlace 5 = .ok (.aload_n 0, 1) := by decide +kernel
theorem dX5_isPlace_6 : decode cX5_isPlace 6 = .ok (.getfield 27, 3) := by decide +kernel
theorem dX5_isPlace_9 : decode cX5_isPlace 9 = .ok (.if_icmp .ge 7, 3) := by decide +kernel
theorem dX5_isPlace_12 : decode cX5_isPlace 12 = .ok (.iconst 1, 1) := by decide +kernel
theorem dX5_isPlace_13 : decode cX5_isPlace 13 = .ok (.goto 4, 3) := by decide +kernel
theorem dX5_isPlace_16 : decode cX5_isPlace 16 = .ok (.iconst 0, 1) := by decide +kernel
theorem dX5_isPlace_17 : decode cX5_isPlace 17 = .ok (.ireturn, 1) := by decide +kernel
theorem dX5_isReach_0 : decode cX5_isReach 0 = .ok (.iload_n 1, 1) := by decide +kernel
theorem dX5_isReach_1 : decode cX5_isReach 1 = .ok (.ifCond .lt 15, 3) := by decide +kernel
theorem dX5_isReach_4 : decode cX5_isReach 4 = .ok (.iload_n 1, 1) := by decide +kernel
theorem dX5_isReach_5 : decode cX5_isReach 5 = .ok (.aload_n 0, 1) := by decide +kernel
theorem dX5_isReach_6 : decode cX5_isReach 6 = .ok (.getfield 31, 3) := by decide +kernel
theorem dX5_isReach_9 : decode cX5_isReach 9 = .ok (.if_icmp .ge 7, 3) := by decide +kernel
theorem dX5_isReach_12 : decode cX5_isReach 12 = .ok (.iconst 1, 1) := by decide +kernel
theorem dX5_isReach_13 : decode cX5_isReach 13 = .ok (.goto 4, 3) := by decide +kernel
theorem dX5_isReach_16 : decode cX5_isReach 16 = .ok (.iconst 0, 1) := by decide +kernel
theorem dX5_isReach_17 : decode cX5_isReach 17 = .ok (.ireturn, 1) := by decide +kernel
theorem dX5_copyFrom_0 : decode cX5_copyFrom 0 = .ok (.aload_n 0, 1) := by decide +kernel
theorem dX5_copyFrom_1 : decode cX5_copyFrom 1 = .ok (.aload_n 1, 1) := by decide +kernel
theorem dX5_copyFrom_2 : decode cX5_copyFrom 2 = .ok (.getfield 27, 3) := by decide +kernel
theorem dX5_copyFrom_5 : decode cX5_copyFrom 5 = .ok (.putfield 27, 3) := by decide +kernel
theorem dX5_copyFrom_8 : decode cX5_copyFrom 8 = .ok (.aload_n 0, 1) := by decide +kernel
theorem dX5_copyFrom_9 : decode cX5_copyFrom 9 = .ok (.aload_n 1, 1) := by decide +kernel
theorem dX5_copyFrom_10 : decode cX5_copyFrom 10 = .ok (.getfield 31, 3) := by decide +kernel
theorem dX5_copyFrom_13 : decode cX5_copyFrom 13 = .ok (.putfield 31, 3) := by decide +kernel
theorem dX5_copyFrom_16 : decode cX5_copyFrom 16 = .ok (.aload_n 1, 1) := by decide +kernel
theorem dX5_copyFrom_17 : decode cX5_copyFrom 17 = .ok (.getfield 9, 3) := by decide +kernel
theorem dX5_copyFrom_20 : decode cX5_copyFrom 20 = .ok (.iconst 0, 1) := by decide +kernel
theorem dX5_copyFrom_21 : decode cX5_copyFrom 21 = .ok (.aload_n 0, 1) := by decide +kernel
theorem dX5_copyFrom_22 : decode cX5_copyFrom 22 = .ok (.getfield 9, 3) := by decide +kernel
theorem dX5_copyFrom_25 : decode cX5_copyFrom 25 = .ok (.iconst 0, 1) := by decide +kernel
theorem dX5_copyFrom_26 : decode cX5_copyFrom 26 = .ok (.aload_n 0, 1) := by decide +kernel
theorem dX5_copyFrom_27 : decode cX5_copyFrom 27 = .ok (.getfield 31, 3) := by decide +kernel
theorem dX5_copyFrom_30 : decode cX5_copyFrom 30 = .ok (.invokestatic 34, 3) := by decide +kernel
theorem dX5_copyFrom_33 : decode cX5_copyFrom 33 = .ok (.aload_n 1, 1) := by decide +kernel
theorem dX5_copyFrom_34 : decode cX5_copyFrom 34 = .ok (.getfield 15, 3) := by decide +kernel
theorem dX5_copyFrom_37 : decode cX5_copyFrom 37 = .ok (.iconst 0, 1) := by decide +kernel
theorem dX5_copyFrom_38 : decode cX5_copyFrom 38 = .ok (.aload_n 0, 1) := by decide +kernel
theorem dX5_copyFrom_39 : decode cX5_copyFrom 39 = .ok (.getfield 15, 3) := by decide +kernel
theorem dX5_copyFrom_42 : decode cX5_copyFrom 42 = .ok (.iconst 0, 1) := by decide +kernel
theorem dX5_copyFrom_43 : decode cX5_copyFrom 43 = .ok (.aload_n 0, 1) := by decide +kernel
theorem dX5_copyFrom_44 : decode cX5_copyFrom 44 = .ok (.getfield 31, 3) := by decide +kernel
theorem dX5_copyFrom_47 : decode cX5_copyFrom 47 = .ok (.invokestatic 34, 3) := by decide +kernel
theorem dX5_copyFrom_50 : decode cX5_copyFrom 50 = .ok (.aload_n 1, 1) := by decide +kernel
theorem dX5_copyFrom_51 : decode cX5_copyFrom 51 = .ok (.getfield 18, 3) := by decide +kernel
theorem dX5_copyFrom_54 : decode cX5_copyFrom 54 = .ok (.iconst 0, 1) := by decide +kernel
theorem dX5_copyFrom_55 : decode cX5_copyFrom 55 = .ok (.aload_n 0, 1) := by decide +kernel
theorem dX5_copyFrom_56 : decode cX5_copyFrom 56 = .ok (.getfield 18, 3) := by decide +kernel
theorem dX5_copyFrom_59 : decode cX5_copyFrom 59 = .ok (.iconst 0, 1) := by decide +kernel
theorem dX5_copyFrom_60 : decode cX5_copyFrom 60 = .ok (.aload_n 0, 1) := by decide +kernel
theorem dX5_copyFrom_61 : decode cX5_copyFrom 61 = .ok (.getfield 31, 3) := by decide +kernel
theorem dX5_copyFrom_64 : decode cX5_copyFrom 64 = .ok (.invokestatic 34, 3) := by decide +kernel
theorem dX5_copyFrom_67 : decode cX5_copyFrom 67 = .ok (.aload_n 1, 1) := by decide +kernel
theorem dX5_copyFrom_68 : decode cX5_copyFrom 68 = .ok (.getfield 21, 3) := by decide +kernel
theorem dX5_copyFrom_71 : decode cX5_copyFrom 71 = .ok (.iconst 0, 1) := by decide +kernel
theorem dX5_copyFrom_72 : decode cX5_copyFrom 72 = .ok (.aload_n 0, 1) := by decide +kernel
theorem dX5_copyFrom_73 : decode cX5_copyFrom 73 = .ok (.getfield 21, 3) := by decide +kernel
theorem dX5_copyFrom_76 : decode cX5_copyFrom 76 = .ok (.iconst 0, 1) := by decide +kernel
theorem dX5_copyFrom_77 : decode cX5_copyFrom 77 = .ok (.aload_n 0, 1) := by decide +kernel
theorem dX5_copyFrom_78 : decode cX5_copyFrom 78 = .ok (.getfield 31, 3) := by decide +kernel
theorem dX5_copyFrom_81 : decode cX5_copyFrom 81 = .ok (.invokestatic 34, 3) := by decide +kernel
theorem dX5_copyFrom_84 : decode cX5_copyFrom 84 = .ok (.aload_n 1, 1) := by decide +kernel
theorem dX5_copyFrom_85 : decode cX5_copyFrom 85 = .ok (.getfield 24, 3) := by decide +kernel
theorem dX5_copyFrom_88 : decode cX5_copyFrom 88 = .ok (.iconst 0, 1) := by decide +kernel
theorem dX5_copyFrom_89 : decode cX5_copyFrom 89 = .ok (.aload_n 0, 1) := by decide +kernel
theorem dX5_copyFrom_90 : decode cX5_copyFrom 90 = .ok (.getfield 24, 3) := by decide +kernel
theorem dX5_copyFrom_93 : decode cX5_copyFrom 93 = .ok (.iconst 0, 1) := by decide +kernel
theorem dX5_copyFrom_94 : decode cX5_copyFrom 94 = .ok (.aload_n 0, 1) := by decide +kernel
theorem dX5_copyFrom_95 : decode cX5_copyFrom 95 = .ok (.getfield 31, 3) := by decide +kernel
theorem dX5_copyFrom_98 : decode cX5_copyFrom 98 = .ok (.invokestatic 34, 3) := by decide +kernel
theorem dX5_copyFrom_101 : decode cX5_copyFrom 101 = .ok (.return_, 1) := by decide +kernel
theorem dX5_leads_0 : decode cX5_leads 0 = .ok (.iconst 1, 1) := by decide +kernel
theorem dX5_leads_1 : decode cX5_leads 1 = .ok (.iload_n 1, 1) := by decide +kernel
theorem dX5_leads_2 : decode cX5_leads 2 = .ok (.ishl, 1) := by decide +kernel
theorem dX5_leads_3 : decode cX5_leads 3 = .ok (.istore 4, 2) := by decide +kernel
theorem dX5_leads_5 : decode cX5_leads 5 = .ok (.iconst 0, 1) := by decide +kernel
theorem dX5_leads_6 : decode cX5_leads 6 = .ok (.istore 5, 2) := by decide +kernel
theorem dX5_leads_8 : decode cX5_leads 8 = .ok (.iload 5, 2) := by decide +kernel
theorem dX5_leads_10 : decode cX5_leads 10 = .ok (.aload_n 0, 1) := by decide +kernel
theorem dX5_leads_11 : decode cX5_leads 11 = .ok (.getfield 27, 3) := by decide +kernel
theorem dX5_leads_14 : decode cX5_leads 14 = .ok (.if_icmp .ge 77, 3) := by decide +kernel
theorem dX5_leads_17 : decode cX5_leads 17 = .ok (.iload 4, 2) := by decide +kernel
theorem dX5_leads_19 : decode cX5_leads 19 = .ok (.istore 6, 2) := by decide +kernel
theorem dX5_leads_21 : decode cX5_leads 21 = .ok (.iconst 0, 1) := by decide +kernel
theorem dX5_leads_22 : decode cX5_leads 22 = .ok (.istore 7, 2) := by decide +kernel
theorem dX5_leads_24 : decode cX5_leads 24 = .ok (.iload 7, 2) := by decide +kernel
theorem dX5_leads_26 : decode cX5_leads 26 = .ok (.aload_n 0, 1) := by decide +kernel
theorem dX5_leads_27 : decode cX5_leads 27 = .ok (.getfield 31, 3) := by decide +kernel
theorem dX5_leads_30 : decode cX5_leads 30 = .ok (.if_icmp .ge 45, 3) := by decide +kernel
theorem dX5_leads_33 : decode cX5_leads 33 = .ok (.iload 7, 2) := by decide +kernel
theorem dX5_leads_35 : decode cX5_leads 35 = .ok (.iload_n 3, 1) := by decide +kernel
theorem dX5_leads_36 : decode cX5_leads 36 = .ok (.if_icmp .eq 33, 3) := by decide +kernel
theorem dX5_leads_39 : decode cX5_leads 39 = .ok (.iload 4, 2) := by decide +kernel
theorem dX5_leads_41 : decode cX5_leads 41 = .ok (.aload_n 0, 1) := by decide +kernel
theorem dX5_leads_42 : decode cX5_leads 42 = .ok (.getfield 9, 3) := by decide +kernel
theorem dX5_leads_45 : decode cX5_leads 45 = .ok (.iload 7, 2) := by decide +kernel
theorem dX5_leads_47 : decode cX5_leads 47 = .ok (.iaload, 1) := by decide +kernel
theorem dX5_leads_48 : decode cX5_leads 48 = .ok (.ishr, 1) := by decide +kernel
theorem dX5_leads_49 : decode cX5_leads 49 = .ok (.iconst 1, 1) := by decide +kernel
theorem dX5_leads_50 : decode cX5_leads 50 = .ok (.iand, 1) := by decide +kernel
theorem dX5_leads_51 : decode cX5_leads 51 = .ok (.iconst 1, 1) := by decide +kernel
theorem dX5_leads_52 : decode cX5_leads 52 = .ok (.if_icmp .ne 17, 3) := by decide +kernel
theorem dX5_leads_55 : decode cX5_leads 55 = .ok (.iload 4, 2) := by decide +kernel
theorem dX5_leads_57 : decode cX5_leads 57 = .ok (.iconst 1, 1) := by decide +kernel
theorem dX5_leads_58 : decode cX5_leads 58 = .ok (.aload_n 0, 1) := by decide +kernel
theorem dX5_leads_59 : decode cX5_leads 59 = .ok (.getfield 15, 3) := by decide +kernel
theorem dX5_leads_62 : decode cX5_leads 62 = .ok (.iload 7, 2) := by decide +kernel
theorem dX5_leads_64 : decode cX5_leads 64 = .ok (.iaload, 1) := by decide +kernel
theorem dX5_leads_65 : decode cX5_leads 65 = .ok (.ishl, 1) := by decide +kernel
theorem dX5_leads_66 : decode cX5_leads 66 = .ok (.ior, 1) := by decide +kernel
theorem dX5_leads_67 : decode cX5_leads 67 = .ok (.istore 4, 2) := by decide +kernel
theorem dX5_leads_69 : decode cX5_leads 69 = .ok (.iinc 7 1, 3) := by decide +kernel
theorem dX5_leads_72 : decode cX5_leads 72 = .ok (.goto (-48), 3) := by decide +kernel
theorem dX5_leads_75 : decode cX5_leads 75 = .ok (.iload 4, 2) := by decide +kernel
theorem dX5_leads_77 : decode cX5_leads 77 = .ok (.iload 6, 2) := by decide +kernel
theorem dX5_leads_79 : decode cX5_leads 79 = .ok (.if_icmp .ne 6, 3) := by decide +kernel
theorem dX5_leads_82 : decode cX5_leads 82 = .ok (.goto 9, 3) := by decide +kernel
theorem dX5_leads_85 : decode cX5_leads 85 = .ok (.iinc 5 1, 3) := by decide +kernel
theorem dX5_leads_88 : decode cX5_leads 88 = .ok (.goto (-80), 3) := by decide +kernel
theorem dX5_leads_91 : decode cX5_leads 91 = .ok (.iload 4, 2) := by decide +kernel
theorem dX5_leads_93 : decode cX5_leads 93 = .ok (.iload_n 2, 1) := by decide +kernel
theorem dX5_leads_94 : decode cX5_leads 94 = .ok (.ishr, 1) := by decide +kernel
theorem dX5_leads_95 : decode cX5_leads 95 = .ok (.iconst 1, 1) := by decide +kernel
theorem dX5_leads_96 : decode cX5_leads 96 = .ok (.iand, 1) := by decide +kernel
theorem dX5_leads_97 : decode cX5_leads 97 = .ok (.iconst 1, 1) := by decide +kernel
theorem dX5_leads_98 : decode cX5_leads 98 = .ok (.if_icmp .ne 7, 3) := by decide +kernel
theorem dX5_leads_101 : decode cX5_leads 101 = .ok (.iconst 1, 1) := by decide +kernel
theorem dX5_leads_102 : decode cX5_leads 102 = .ok (.goto 4, 3) := by decide +kernel
theorem dX5_leads_105 : decode cX5_leads 105 = .ok (.iconst 0, 1) := by decide +kernel
theorem dX5_leads_106 : decode cX5_leads 106 = .ok (.ireturn, 1) := by decide +kernel
theorem dX5_mayLay_0 : decode cX5_mayLay 0 = .ok (.aload_n 0, 1) := by decide +kernel
theorem dX5_mayLay_1 : decode cX5_mayLay 1 = .ok (.iload_n 1, 1) := by decide +kernel
theorem dX5_mayLay_2 : decode cX5_mayLay 2 = .ok (.invokevirtual 40, 3) := by decide +kernel
theorem dX5_mayLay_5 : decode cX5_mayLay 5 = .ok (.ifCond .eq 57, 3) := by decide +kernel
theorem dX5_mayLay_8 : decode cX5_mayLay 8 = .ok (.aload_n 0, 1) := by decide +kernel
theorem dX5_mayLay_9 : decode cX5_mayLay 9 = .ok (.iload_n 2, 1) := by decide +kernel
theorem dX5_mayLay_10 : decode cX5_mayLay 10 = .ok (.invokevirtual 40, 3) := by decide +kernel
theorem dX5_mayLay_13 : decode cX5_mayLay 13 = .ok (.ifCond .eq 49, 3) := by decide +kernel
theorem dX5_mayLay_16 : decode cX5_mayLay 16 = .ok (.aload_n 0, 1) := by decide +kernel
theorem dX5_mayLay_17 : decode cX5_mayLay 17 = .ok (.getfield 31, 3) := by decide +kernel
theorem dX5_mayLay_20 : decode cX5_mayLay 20 = .ok (.bipush 30, 2) := by decide +kernel
theorem dX5_mayLay_22 : decode cX5_mayLay 22 = .ok (.if_icmp .ge 40, 3) := by decide +kernel
theorem dX5_mayLay_25 : decode cX5_mayLay 25 = .ok (.iload_n 3, 1) := by decide +kernel
theorem dX5_mayLay_26 : decode cX5_mayLay 26 = .ok (.iconst 1, 1) := by decide +kernel
theorem dX5_mayLay_27 : decode cX5_mayLay 27 = .ok (.if_icmp .lt 35, 3) := by decide +kernel
theorem dX5_mayLay_30 : decode cX5_mayLay 30 = .ok (.iload_n 3, 1) := by decide +kernel
theorem dX5_mayLay_31 : decode cX5_mayLay 31 = .ok (.bipush 99, 2) := by decide +kernel
theorem dX5_mayLay_33 : decode cX5_mayLay 33 = .ok (.if_icmp .gt 29, 3) := by decide +kernel
theorem dX5_mayLay_36 : decode cX5_mayLay 36 = .ok (.iload 4, 2) := by decide +kernel
theorem dX5_mayLay_38 : decode cX5_mayLay 38 = .ok (.ifCond .lt 24, 3) := by decide +kernel
theorem dX5_mayLay_41 : decode cX5_mayLay 41 = .ok (.iload 4, 2) := by decide +kernel
theorem dX5_mayLay_43 : decode cX5_mayLay 43 = .ok (.bipush 99, 2) := by decide +kernel
theorem dX5_mayLay_45 : decode cX5_mayLay 45 = .ok (.if_icmp .gt 17, 3) := by decide +kernel
theorem dX5_mayLay_48 : decode cX5_mayLay 48 = .ok (.aload_n 0, 1) := by decide +kernel
theorem dX5_mayLay_49 : decode cX5_mayLay 49 = .ok (.iload_n 2, 1) := by decide +kernel
theorem dX5_mayLay_50 : decode cX5_mayLay 50 = .ok (.iload_n 1, 1) := by decide +kernel
theorem dX5_mayLay_51 : decode cX5_mayLay 51 = .ok (.iconst (-1), 1) := by decide +kernel
theorem dX5_mayLay_52 : decode cX5_mayLay 52 = .ok (.invokevirtual 44, 3) := by decide +kernel
theorem dX5_mayLay_55 : decode cX5_mayLay 55 = .ok (.ifCond .ne 7, 3) := by decide +kernel
theorem dX5_mayLay_58 : decode cX5_mayLay 58 = .ok (.iconst 1, 1) := by decide +kernel
theorem dX5_mayLay_59 : decode cX5_mayLay 59 = .ok (.goto 4, 3) := by decide +kernel
theorem dX5_mayLay_62 : decode cX5_mayLay 62 = .ok (.iconst 0, 1) := by decide +kernel
theorem dX5_mayLay_63 : decode cX5_mayLay 63 = .ok (.ireturn, 1) := by decide +kernel
theorem dX5_lay_0 : decode cX5_lay 0 = .ok (.aload_n 0, 1) := by decide +kernel
theorem dX5_lay_1 : decode cX5_lay 1 = .ok (.getfield 9, 3) := by decide +kernel
theorem dX5_lay_4 : decode cX5_lay 4 = .ok (.aload_n 0, 1) := by decide +kernel
theorem dX5_lay_5 : decode cX5_lay 5 = .ok (.getfield 31, 3) := by decide +kernel
theorem dX5_lay_8 : decode cX5_lay 8 = .ok (.iload_n 1, 1) := by decide +kernel
theorem dX5_lay_9 : decode cX5_lay 9 = .ok (.iastore, 1) := by decide +kernel
theorem dX5_lay_10 : decode cX5_lay 10 = .ok (.aload_n 0, 1) := by decide +kernel
theorem dX5_lay_11 : decode cX5_lay 11 = .ok (.getfield 15, 3) := by decide +kernel
theorem dX5_lay_14 : decode cX5_lay 14 = .ok (.aload_n 0, 1) := by decide +kernel
theorem dX5_lay_15 : decode cX5_lay 15 = .ok (.getfield 31, 3) := by decide +kernel
theorem dX5_lay_18 : decode cX5_lay 18 = .ok (.iload_n 2, 1) := by decide +kernel
theorem dX5_lay_19 : decode cX5_lay 19 = .ok (.iastore, 1) := by decide +kernel
theorem dX5_lay_20 : decode cX5_lay 20 = .ok (.aload_n 0, 1) := by decide +kernel
theorem dX5_lay_21 : decode cX5_lay 21 = .ok (.getfield 18, 3) := by decide +kernel
theorem dX5_lay_24 : decode cX5_lay 24 = .ok (.aload_n 0, 1) := by decide +kernel
theorem dX5_lay_25 : decode cX5_lay 25 = .ok (.getfield 31, 3) := by decide +kernel
theorem dX5_lay_28 : decode cX5_lay 28 = .ok (.iload_n 3, 1) := by decide +kernel
theorem dX5_lay_29 : decode cX5_lay 29 = .ok (.iastore, 1) := by decide +kernel
theorem dX5_lay_30 : decode cX5_lay 30 = .ok (.aload_n 0, 1) := by decide +kernel
theorem dX5_lay_31 : decode cX5_lay 31 = .ok (.getfield 21, 3) := by decide +kernel
theorem dX5_lay_34 : decode cX5_lay 34 = .ok (.aload_n 0, 1) := by decide +kernel
theorem dX5_lay_35 : decode cX5_lay 35 = .ok (.getfield 31, 3) := by decide +kernel
theorem dX5_lay_38 : decode cX5_lay 38 = .ok (.iload 4, 2) := by decide +kernel
theorem dX5_lay_40 : decode cX5_lay 40 = .ok (.iastore, 1) := by decide +kernel
theorem dX5_lay_41 : decode cX5_lay 41 = .ok (.aload_n 0, 1) := by decide +kernel
theorem dX5_lay_42 : decode cX5_lay 42 = .ok (.getfield 24, 3) := by decide +kernel
theorem dX5_lay_45 : decode cX5_lay 45 = .ok (.aload_n 0, 1) := by decide +kernel
theorem dX5_lay_46 : decode cX5_lay 46 = .ok (.getfield 31, 3) := by decide +kernel
theorem dX5_lay_49 : decode cX5_lay 49 = .ok (.iload 5, 2) := by decide +kernel
theorem dX5_lay_51 : decode cX5_lay 51 = .ok (.iastore, 1) := by decide +kernel
theorem dX5_lay_52 : decode cX5_lay 52 = .ok (.aload_n 0, 1) := by decide +kernel
theorem dX5_lay_53 : decode cX5_lay 53 = .ok (.dup, 1) := by decide +kernel
theorem dX5_lay_54 : decode cX5_lay 54 = .ok (.getfield 31, 3) := by decide +kernel
theorem dX5_lay_57 : decode cX5_lay 57 = .ok (.iconst 1, 1) := by decide +kernel
theorem dX5_lay_58 : decode cX5_lay 58 = .ok (.iadd, 1) := by decide +kernel
theorem dX5_lay_59 : decode cX5_lay 59 = .ok (.putfield 31, 3) := by decide +kernel
theorem dX5_lay_62 : decode cX5_lay 62 = .ok (.return_, 1) := by decide +kernel
theorem dX5_take_0 : decode cX5_take 0 = .ok (.aload_n 0, 1) := by decide +kernel
theorem dX5_take_1 : decode cX5_take 1 = .ok (.getfield 31, 3) := by decide +kernel
theorem dX5_take_4 : decode cX5_take 4 = .ok (.iload_n 1, 1) := by decide +kernel
theorem dX5_take_5 : decode cX5_take 5 = .ok (.isub, 1) := by decide +kernel
theorem dX5_take_6 : decode cX5_take 6 = .ok (.iconst 1, 1) := by decide +kernel
theorem dX5_take_7 : decode cX5_take 7 = .ok (.isub, 1) := by decide +kernel
theorem dX5_take_8 : decode cX5_take 8 = .ok (.istore_n 2, 1) := by decide +kernel
theorem dX5_take_9 : decode cX5_take 9 = .ok (.aload_n 0, 1) := by decide +kernel
theorem dX5_take_10 : decode cX5_take 10 = .ok (.getfield 9, 3) := by decide +kernel
theorem dX5_take_13 : decode cX5_take 13 = .ok (.iload_n 1, 1) := by decide +kernel
theorem dX5_take_14 : decode cX5_take 14 = .ok (.iconst 1, 1) := by decide +kernel
theorem dX5_take_15 : decode cX5_take 15 = .ok (.iadd, 1) := by decide +kernel
theorem dX5_take_16 : decode cX5_take 16 = .ok (.aload_n 0, 1) := by decide +kernel
theorem dX5_take_17 : decode cX5_take 17 = .ok (.getfield 9, 3) := by decide +kernel
theorem dX5_take_20 : decode cX5_take 20 = .ok (.iload_n 1, 1) := by decide +kernel
theorem dX5_take_21 : decode cX5_take 21 = .ok (.iload_n 2, 1) := by decide +kernel
theorem dX5_take_22 : decode cX5_take 22 = .ok (.invokestatic 34, 3) := by decide +kernel
theorem dX5_take_25 : decode cX5_take 25 = .ok (.aload_n 0, 1) := by decide +kernel
theorem dX5_take_26 : decode cX5_take 26 = .ok (.getfield 15, 3) := by decide +kernel
theorem dX5_take_29 : decode cX5_take 29 = .ok (.iload_n 1, 1) := by decide +kernel
theorem dX5_take_30 : decode cX5_take 30 = .ok (.iconst 1, 1) := by decide +kernel
theorem dX5_take_31 : decode cX5_take 31 = .ok (.iadd, 1) := by decide +kernel
theorem dX5_take_32 : decode cX5_take 32 = .ok (.aload_n 0, 1) := by decide +kernel
theorem dX5_take_33 : decode cX5_take 33 = .ok (.getfield 15, 3) := by decide +kernel
theorem dX5_take_36 : decode cX5_take 36 = .ok (.iload_n 1, 1) := by decide +kernel
theorem dX5_take_37 : decode cX5_take 37 = .ok (.iload_n 2, 1) := by decide +kernel
theorem dX5_take_38 : decode cX5_take 38 = .ok (.invokestatic 34, 3) := by decide +kernel
theorem dX5_take_41 : decode cX5_take 41 = .ok (.aload_n 0, 1) := by decide +kernel
theorem dX5_take_42 : decode cX5_take 42 = .ok (.getfield 18, 3) := by decide +kernel
theorem dX5_take_45 : decode cX5_take 45 = .ok (.iload_n 1, 1) := by decide +kernel
theorem dX5_take_46 : decode cX5_take 46 = .ok (.iconst 1, 1) := by decide +kernel
theorem dX5_take_47 : decode cX5_take 47 = .ok (.iadd, 1) := by decide +kernel
theorem dX5_take_48 : decode cX5_take 48 = .ok (.aload_n 0, 1) := by decide +kernel
theorem dX5_take_49 : decode cX5_take 49 = .ok (.getfield 18, 3) := by decide +kernel
theorem dX5_take_52 : decode cX5_take 52 = .ok (.iload_n 1, 1) := by decide +kernel
theorem dX5_take_53 : decode cX5_take 53 = .ok (.iload_n 2, 1) := by decide +kernel
theorem dX5_take_54 : decode cX5_take 54 = .ok (.invokestatic 34, 3) := by decide +kernel
theorem dX5_take_57 : decode cX5_take 57 = .ok (.aload_n 0, 1) := by decide +kernel
theorem dX5_take_58 : decode cX5_take 58 = .ok (.getfield 21, 3) := by decide +kernel
theorem dX5_take_61 : decode cX5_take 61 = .ok (.iload_n 1, 1) := by decide +kernel
theorem dX5_take_62 : decode cX5_take 62 = .ok (.iconst 1, 1) := by decide +kernel
theorem dX5_take_63 : decode cX5_take 63 = .ok (.iadd, 1) := by decide +kernel
theorem dX5_take_64 : decode cX5_take 64 = .ok (.aload_n 0, 1) := by decide +kernel
theorem dX5_take_65 : decode cX5_take 65 = .ok (.getfield 21, 3) := by decide +kernel
theorem dX5_take_68 : decode cX5_take 68 = .ok (.iload_n 1, 1) := by decide +kernel
theorem dX5_take_69 : decode cX5_take 69 = .ok (.iload_n 2, 1) := by decide +kernel
theorem dX5_take_70 : decode cX5_take 70 = .ok (.invokestatic 34, 3) := by decide +kernel
theorem dX5_take_73 : decode cX5_take 73 = .ok (.aload_n 0, 1) := by decide +kernel
theorem dX5_take_74 : decode cX5_take 74 = .ok (.getfield 24, 3) := by decide +kernel
theorem dX5_take_77 : decode cX5_take 77 = .ok (.iload_n 1, 1) := by decide +kernel
theorem dX5_take_78 : decode cX5_take 78 = .ok (.iconst 1, 1) := by decide +kernel
theorem dX5_take_79 : decode cX5_take 79 = .ok (.iadd, 1) := by decide +kernel
theorem dX5_take_80 : decode cX5_take 80 = .ok (.aload_n 0, 1) := by decide +kernel
theorem dX5_take_81 : decode cX5_take 81 = .ok (.getfield 24, 3) := by decide +kernel
theorem dX5_take_84 : decode cX5_take 84 = .ok (.iload_n 1, 1) := by decide +kernel
theorem dX5_take_85 : decode cX5_take 85 = .ok (.iload_n 2, 1) := by decide +kernel
theorem dX5_take_86 : decode cX5_take 86 = .ok (.invokestatic 34, 3) := by decide +kernel
theorem dX5_take_89 : decode cX5_take 89 = .ok (.aload_n 0, 1) := by decide +kernel
theorem dX5_take_90 : decode cX5_take 90 = .ok (.dup, 1) := by decide +kernel
theorem dX5_take_91 : decode cX5_take 91 = .ok (.getfield 31, 3) := by decide +kernel
theorem dX5_take_94 : decode cX5_take 94 = .ok (.iconst 1, 1) := by decide +kernel
theorem dX5_take_95 : decode cX5_take 95 = .ok (.isub, 1) := by decide +kernel
theorem dX5_take_96 : decode cX5_take 96 = .ok (.putfield 31, 3) := by decide +kernel
theorem dX5_take_99 : decode cX5_take 99 = .ok (.return_, 1) := by decide +kernel
theorem dX5_maySplit_0 : decode cX5_maySplit 0 = .ok (.aload_n 0, 1) := by decide +kernel
theorem dX5_maySplit_1 : decode cX5_maySplit 1 = .ok (.iload_n 1, 1) := by decide +kernel
theorem dX5_maySplit_2 : decode cX5_maySplit 2 = .ok (.invokevirtual 48, 3) := by decide +kernel
theorem dX5_maySplit_5 : decode cX5_maySplit 5 = .ok (.ifCond .eq 40, 3) := by decide +kernel
theorem dX5_maySplit_8 : decode cX5_maySplit 8 = .ok (.iload_n 2, 1) := by decide +kernel
theorem dX5_maySplit_9 : decode cX5_maySplit 9 = .ok (.iconst 1, 1) := by decide +kernel
theorem dX5_maySplit_10 : decode cX5_maySplit 10 = .ok (.if_icmp .lt 35, 3) := by decide +kernel
theorem dX5_maySplit_13 : decode cX5_maySplit 13 = .ok (.iload_n 2, 1) := by decide +kernel
theorem dX5_maySplit_14 : decode cX5_maySplit 14 = .ok (.aload_n 0, 1) := by decide +kernel
theorem dX5_maySplit_15 : decode cX5_maySplit 15 = .ok (.getfield 18, 3) := by decide +kernel
theorem dX5_maySplit_18 : decode cX5_maySplit 18 = .ok (.iload_n 1, 1) := by decide +kernel
theorem dX5_maySplit_19 : decode cX5_maySplit 19 = .ok (.iaload, 1) := by decide +kernel
theorem dX5_maySplit_20 : decode cX5_maySplit 20 = .ok (.if_icmp .ge 25, 3) := by decide +kernel
theorem dX5_maySplit_23 : decode cX5_maySplit 23 = .ok (.aload_n 0, 1) := by decide +kernel
theorem dX5_maySplit_24 : decode cX5_maySplit 24 = .ok (.getfield 27, 3) := by decide +kernel
theorem dX5_maySplit_27 : decode cX5_maySplit 27 = .ok (.bipush 20, 2) := by decide +kernel
theorem dX5_maySplit_29 : decode cX5_maySplit 29 = .ok (.if_icmp .ge 16, 3) := by decide +kernel
theorem dX5_maySplit_32 : decode cX5_maySplit 32 = .ok (.aload_n 0, 1) := by decide +kernel
theorem dX5_maySplit_33 : decode cX5_maySplit 33 = .ok (.getfield 31, 3) := by decide +kernel
theorem dX5_maySplit_36 : decode cX5_maySplit 36 = .ok (.bipush 30, 2) := by decide +kernel
theorem dX5_maySplit_38 : decode cX5_maySplit 38 = .ok (.if_icmp .ge 7, 3) := by decide +kernel
theorem dX5_maySplit_41 : decode cX5_maySplit 41 = .ok (.iconst 1, 1) := by decide +kernel
theorem dX5_maySplit_42 : decode cX5_maySplit 42 = .ok (.goto 4, 3) := by decide +kernel
theorem dX5_maySplit_45 : decode cX5_maySplit 45 = .ok (.iconst 0, 1) := by decide +kernel
theorem dX5_maySplit_46 : decode cX5_maySplit 46 = .ok (.ireturn, 1) := by decide +kernel
theorem dX5_split_0 : decode cX5_split 0 = .ok (.aload_n 0, 1) := by decide +kernel
theorem dX5_split_1 : decode cX5_split 1 = .ok (.getfield 27, 3) := by decide +kernel
theorem dX5_split_4 : decode cX5_split 4 = .ok (.istore_n 3, 1) := by decide +kernel
theorem dX5_split_5 : decode cX5_split 5 = .ok (.aload_n 0, 1) := by decide +kernel
theorem dX5_split_6 : decode cX5_split 6 = .ok (.dup, 1) := by decide +kernel
theorem dX5_split_7 : decode cX5_split 7 = .ok (.getfield 27, 3) := by decide +kernel
theorem dX5_split_10 : decode cX5_split 10 = .ok (.iconst 1, 1) := by decide +kernel
theorem dX5_split_11 : decode cX5_split 11 = .ok (.iadd, 1) := by decide +kernel
theorem dX5_split_12 : decode cX5_split 12 = .ok (.putfield 27, 3) := by decide +kernel
theorem dX5_split_15 : decode cX5_split 15 = .ok (.aload_n 0, 1) := by decide +kernel
theorem dX5_split_16 : decode cX5_split 16 = .ok (.iload_n 3, 1) := by decide +kernel
theorem dX5_split_17 : decode cX5_split 17 = .ok (.aload_n 0, 1) := by decide +kernel
theorem dX5_split_18 : decode cX5_split 18 = .ok (.getfield 15, 3) := by decide +kernel
theorem dX5_split_21 : decode cX5_split 21 = .ok (.iload_n 1, 1) := by decide +kernel
theorem dX5_split_22 : decode cX5_split 22 = .ok (.iaload, 1) := by decide +kernel
theorem dX5_split_23 : decode cX5_split 23 = .ok (.aload_n 0, 1) := by decide +kernel
theorem dX5_split_24 : decode cX5_split 24 = .ok (.getfield 18, 3) := by decide +kernel
theorem dX5_split_27 : decode cX5_split 27 = .ok (.iload_n 1, 1) := by decide +kernel
theorem dX5_split_28 : decode cX5_split 28 = .ok (.iaload, 1) := by decide +kernel
theorem dX5_split_29 : decode cX5_split 29 = .ok (.iload_n 2, 1) := by decide +kernel
theorem dX5_split_30 : decode cX5_split 30 = .ok (.isub, 1) := by decide +kernel
theorem dX5_split_31 : decode cX5_split 31 = .ok (.iconst 0, 1) := by decide +kernel
theorem dX5_split_32 : decode cX5_split 32 = .ok (.aload_n 0, 1) := by decide +kernel
theorem dX5_split_33 : decode cX5_split 33 = .ok (.getfield 24, 3) := by decide +kernel
theorem dX5_split_36 : decode cX5_split 36 = .ok (.iload_n 1, 1) := by decide +kernel
theorem dX5_split_37 : decode cX5_split 37 = .ok (.iaload, 1) := by decide +kernel
theorem dX5_split_38 : decode cX5_split 38 = .ok (.invokevirtual 51, 3) := by decide +kernel
theorem dX5_split_41 : decode cX5_split 41 = .ok (.aload_n 0, 1) := by decide +kernel
theorem dX5_split_42 : decode cX5_split 42 = .ok (.getfield 15, 3) := by decide +kernel
theorem dX5_split_45 : decode cX5_split 45 = .ok (.iload_n 1, 1) := by decide +kernel
theorem dX5_split_46 : decode cX5_split 46 = .ok (.iload_n 3, 1) := by decide +kernel
theorem dX5_split_47 : decode cX5_split 47 = .ok (.iastore, 1) := by decide +kernel
theorem dX5_split_48 : decode cX5_split 48 = .ok (.aload_n 0, 1) := by decide +kernel
theorem dX5_split_49 : decode cX5_split 49 = .ok (.getfield 18, 3) := by decide +kernel
theorem dX5_split_52 : decode cX5_split 52 = .ok (.iload_n 1, 1) := by decide +kernel
theorem dX5_split_53 : decode cX5_split 53 = .ok (.iload_n 2, 1) := by decide +kernel
theorem dX5_split_54 : decode cX5_split 54 = .ok (.iastore, 1) := by decide +kernel
theorem dX5_split_55 : decode cX5_split 55 = .ok (.return_, 1) := by decide +kernel
theorem dX5_mayReverse_0 : decode cX5_mayReverse 0 = .ok (.aload_n 0, 1) := by decide +kernel
theorem dX5_mayReverse_1 : decode cX5_mayReverse 1 = .ok (.aload_n 0, 1) := by decide +kernel
theorem dX5_mayReverse_2 : decode cX5_mayReverse 2 = .ok (.getfield 9, 3) := by decide +kernel
theorem dX5_mayReverse_5 : decode cX5_mayReverse 5 = .ok (.iload_n 1, 1) := by decide +kernel
theorem dX5_mayReverse_6 : decode cX5_mayReverse 6 = .ok (.iaload, 1) := by decide +kernel
theorem dX5_mayReverse_7 : decode cX5_mayReverse 7 = .ok (.aload_n 0, 1) := by decide +kernel
theorem dX5_mayReverse_8 : decode cX5_mayReverse 8 = .ok (.getfield 15, 3) := by decide +kernel
theorem dX5_mayReverse_11 : decode cX5_mayReverse 11 = .ok (.iload_n 1, 1) := by decide +kernel
theorem dX5_mayReverse_12 : decode cX5_mayReverse 12 = .ok (.iaload, 1) := by decide +kernel
theorem dX5_mayReverse_13 : decode cX5_mayReverse 13 = .ok (.iload_n 1, 1) := by decide +kernel
theorem dX5_mayReverse_14 : decode cX5_mayReverse 14 = .ok (.invokevirtual 44, 3) := by decide +kernel
theorem dX5_mayReverse_17 : decode cX5_mayReverse 17 = .ok (.ifCond .ne 7, 3) := by decide +kernel
theorem dX5_mayReverse_20 : decode cX5_mayReverse 20 = .ok (.iconst 1, 1) := by decide +kernel
theorem dX5_mayReverse_21 : decode cX5_mayReverse 21 = .ok (.goto 4, 3) := by decide +kernel
theorem dX5_mayReverse_24 : decode cX5_mayReverse 24 = .ok (.iconst 0, 1) := by decide +kernel
theorem dX5_mayReverse_25 : decode cX5_mayReverse 25 = .ok (.ireturn, 1) := by decide +kernel
theorem dX5_reverse_0 : decode cX5_reverse 0 = .ok (.aload_n 0, 1) := by decide +kernel
theorem dX5_reverse_1 : decode cX5_reverse 1 = .ok (.getfield 9, 3) := by decide +kernel
theorem dX5_reverse_4 : decode cX5_reverse 4 = .ok (.iload_n 1, 1) := by decide +kernel
theorem dX5_reverse_5 : decode cX5_reverse 5 = .ok (.iaload, 1) := by decide +kernel
theorem dX5_reverse_6 : decode cX5_reverse 6 = .ok (.istore_n 2, 1) := by decide +kernel
theorem dX5_reverse_7 : decode cX5_reverse 7 = .ok (.aload_n 0, 1) := by decide +kernel
theorem dX5_reverse_8 : decode cX5_reverse 8 = .ok (.getfield 9, 3) := by decide +kernel
theorem dX5_reverse_11 : decode cX5_reverse 11 = .ok (.iload_n 1, 1) := by decide +kernel
theorem dX5_reverse_12 : decode cX5_reverse 12 = .ok (.aload_n 0, 1) := by decide +kernel
theorem dX5_reverse_13 : decode cX5_reverse 13 = .ok (.getfield 15, 3) := by decide +kernel
theorem dX5_reverse_16 : decode cX5_reverse 16 = .ok (.iload_n 1, 1) := by decide +kernel
theorem dX5_reverse_17 : decode cX5_reverse 17 = .ok (.iaload, 1) := by decide +kernel
theorem dX5_reverse_18 : decode cX5_reverse 18 = .ok (.iastore, 1) := by decide +kernel
theorem dX5_reverse_19 : decode cX5_reverse 19 = .ok (.aload_n 0, 1) := by decide +kernel
theorem dX5_reverse_20 : decode cX5_reverse 20 = .ok (.getfield 15, 3) := by decide +kernel
theorem dX5_reverse_23 : decode cX5_reverse 23 = .ok (.iload_n 1, 1) := by decide +kernel
theorem dX5_reverse_24 : decode cX5_reverse 24 = .ok (.iload_n 2, 1) := by decide +kernel
theorem dX5_reverse_25 : decode cX5_reverse 25 = .ok (.iastore, 1) := by decide +kernel
theorem dX5_reverse_26 : decode cX5_reverse 26 = .ok (.return_, 1) := by decide +kernel
theorem dX5_howManyCalled_0 : decode cX5_howManyCalled 0 = .ok (.iconst 0, 1) := by decide +kernel
theorem dX5_howManyCalled_1 : decode cX5_howManyCalled 1 = .ok (.istore_n 2, 1) := by decide +kernel
theorem dX5_howManyCalled_2 : decode cX5_howManyCalled 2 = .ok (.iconst 0, 1) := by decide +kernel
theorem dX5_howManyCalled_3 : decode cX5_howManyCalled 3 = .ok (.istore_n 3, 1) := by decide +kernel
theorem dX5_howManyCalled_4 : decode cX5_howManyCalled 4 = .ok (.iload_n 3, 1) := by decide +kernel
theorem dX5_howManyCalled_5 : decode cX5_howManyCalled 5 = .ok (.aload_n 0, 1) := by decide +kernel
theorem dX5_howManyCalled_6 : decode cX5_howManyCalled 6 = .ok (.getfield 31, 3) := by decide +kernel
theorem dX5_howManyCalled_9 : decode cX5_howManyCalled 9 = .ok (.if_icmp .ge 22, 3) := by decide +kernel
theorem dX5_howManyCalled_12 : decode cX5_howManyCalled 12 = .ok (.aload_n 0, 1) := by decide +kernel
theorem dX5_howManyCalled_13 : decode cX5_howManyCalled 13 = .ok (.getfield 24, 3) := by decide +kernel
theorem dX5_howManyCalled_16 : decode cX5_howManyCalled 16 = .ok (.iload_n 3, 1) := by decide +kernel
theorem dX5_howManyCalled_17 : decode cX5_howManyCalled 17 = .ok (.iaload, 1) := by decide +kernel
theorem dX5_howManyCalled_18 : decode cX5_howManyCalled 18 = .ok (.iload_n 1, 1) := by decide +kernel
theorem dX5_howManyCalled_19 : decode cX5_howManyCalled 19 = .ok (.if_icmp .ne 6, 3) := by decide +kernel
theorem dX5_howManyCalled_22 : decode cX5_howManyCalled 22 = .ok (.iinc 2 1, 3) := by decide +kernel
theorem dX5_howManyCalled_25 : decode cX5_howManyCalled 25 = .ok (.iinc 3 1, 3) := by decide +kernel
theorem dX5_howManyCalled_28 : decode cX5_howManyCalled 28 = .ok (.goto (-24), 3) := by decide +kernel
theorem dX5_howManyCalled_31 : decode cX5_howManyCalled 31 = .ok (.iload_n 2, 1) := by decide +kernel
theorem dX5_howManyCalled_32 : decode cX5_howManyCalled 32 = .ok (.ireturn, 1) := by decide +kernel
theorem dX5_lengthCalled_0 : decode cX5_lengthCalled 0 = .ok (.iconst 0, 1) := by decide +kernel
theorem dX5_lengthCalled_1 : decode cX5_lengthCalled 1 = .ok (.istore_n 2, 1) := by decide +kernel
theorem dX5_lengthCalled_2 : decode cX5_lengthCalled 2 = .ok (.iconst 0, 1) := by decide +kernel
theorem dX5_lengthCalled_3 : decode cX5_lengthCalled 3 = .ok (.istore_n 3, 1) := by decide +kernel
theorem dX5_lengthCalled_4 : decode cX5_lengthCalled 4 = .ok (.iload_n 3, 1) := by decide +kernel
theorem dX5_lengthCalled_5 : decode cX5_lengthCalled 5 = .ok (.aload_n 0, 1) := by decide +kernel
theorem dX5_lengthCalled_6 : decode cX5_lengthCalled 6 = .ok (.getfield 31, 3) := by decide +kernel
theorem dX5_lengthCalled_9 : decode cX5_lengthCalled 9 = .ok (.if_icmp .ge 28, 3) := by decide +kernel
theorem dX5_lengthCalled_12 : decode cX5_lengthCalled 12 = .ok (.aload_n 0, 1) := by decide +kernel
theorem dX5_lengthCalled_13 : decode cX5_lengthCalled 13 = .ok (.getfield 24, 3) := by decide +kernel
theorem dX5_lengthCalled_16 : decode cX5_lengthCalled 16 = .ok (.iload_n 3, 1) := by decide +kernel
theorem dX5_lengthCalled_17 : decode cX5_lengthCalled 17 = .ok (.iaload, 1) := by decide +kernel
theorem dX5_lengthCalled_18 : decode cX5_lengthCalled 18 = .ok (.iload_n 1, 1) := by decide +kernel
theorem dX5_lengthCalled_19 : decode cX5_lengthCalled 19 = .ok (.if_icmp .ne 12, 3) := by decide +kernel
theorem dX5_lengthCalled_22 : decode cX5_lengthCalled 22 = .ok (.iload_n 2, 1) := by decide +kernel
theorem dX5_lengthCalled_23 : decode cX5_lengthCalled 23 = .ok (.aload_n 0, 1) := by decide +kernel
theorem dX5_lengthCalled_24 : decode cX5_lengthCalled 24 = .ok (.getfield 18, 3) := by decide +kernel
theorem dX5_lengthCalled_27 : decode cX5_lengthCalled 27 = .ok (.iload_n 3, 1) := by decide +kernel
theorem dX5_lengthCalled_28 : decode cX5_lengthCalled 28 = .ok (.iaload, 1) := by decide +kernel
theorem dX5_lengthCalled_29 : decode cX5_lengthCalled 29 = .ok (.iadd, 1) := by decide +kernel
theorem dX5_lengthCalled_30 : decode cX5_lengthCalled 30 = .ok (.istore_n 2, 1) := by decide +kernel
theorem dX5_lengthCalled_31 : decode cX5_lengthCalled 31 = .ok (.iinc 3 1, 3) := by decide +kernel
theorem dX5_lengthCalled_34 : decode cX5_lengthCalled 34 = .ok (.goto (-30), 3) := by decide +kernel
theorem dX5_lengthCalled_37 : decode cX5_lengthCalled 37 = .ok (.iload_n 2, 1) := by decide +kernel
theorem dX5_lengthCalled_38 : decode cX5_lengthCalled 38 = .ok (.ireturn, 1) := by decide +kernel
theorem dX5_firstCalled_0 : decode cX5_firstCalled 0 = .ok (.iconst 0, 1) := by decide +kernel
theorem dX5_firstCalled_1 : decode cX5_firstCalled 1 = .ok (.istore_n 2, 1) := by decide +kernel
theorem dX5_firstCalled_2 : decode cX5_firstCalled 2 = .ok (.iload_n 2, 1) := by decide +kernel
theorem dX5_firstCalled_3 : decode cX5_firstCalled 3 = .ok (.aload_n 0, 1) := by decide +kernel
theorem dX5_firstCalled_4 : decode cX5_firstCalled 4 = .ok (.getfield 31, 3) := by decide +kernel
theorem dX5_firstCalled_7 : decode cX5_firstCalled 7 = .ok (.if_icmp .ge 21, 3) := by decide +kernel
theorem dX5_firstCalled_10 : decode cX5_firstCalled 10 = .ok (.aload_n 0, 1) := by decide +kernel
theorem dX5_firstCalled_11 : decode cX5_firstCalled 11 = .ok (.getfield 24, 3) := by decide +kernel
theorem dX5_firstCalled_14 : decode cX5_firstCalled 14 = .ok (.iload_n 2, 1) := by decide +kernel
theorem dX5_firstCalled_15 : decode cX5_firstCalled 15 = .ok (.iaload, 1) := by decide +kernel
theorem dX5_firstCalled_16 : decode cX5_firstCalled 16 = .ok (.iload_n 1, 1) := by decide +kernel
theorem dX5_firstCalled_17 : decode cX5_firstCalled 17 = .ok (.if_icmp .ne 5, 3) := by decide +kernel
theorem dX5_firstCalled_20 : decode cX5_firstCalled 20 = .ok (.iload_n 2, 1) := by decide +kernel
theorem dX5_firstCalled_21 : decode cX5_firstCalled 21 = .ok (.ireturn, 1) := by decide +kernel
theorem dX5_firstCalled_22 : decode cX5_firstCalled 22 = .ok (.iinc 2 1, 3) := by decide +kernel
theorem dX5_firstCalled_25 : decode cX5_firstCalled 25 = .ok (.goto (-23), 3) := by decide +kernel
theorem dX5_firstCalled_28 : decode cX5_firstCalled 28 = .ok (.iconst (-1), 1) := by decide +kernel
theorem dX5_firstCalled_29 : decode cX5_firstCalled 29 = .ok (.ireturn, 1) := by decide +kernel
theorem dX5_isTorn_0 : decode cX5_isTorn 0 = .ok (.iconst 0, 1) := by decide +kernel
theorem dX5_isTorn_1 : decode cX5_isTorn 1 = .ok (.istore_n 2, 1) := by decide +kernel
theorem dX5_isTorn_2 : decode cX5_isTorn 2 = .ok (.iconst 0, 1) := by decide +kernel
theorem dX5_isTorn_3 : decode cX5_isTorn 3 = .ok (.istore_n 3, 1) := by decide +kernel
theorem dX5_isTorn_4 : decode cX5_isTorn 4 = .ok (.iconst 0, 1) := by decide +kernel
theorem dX5_isTorn_5 : decode cX5_isTorn 5 = .ok (.istore 4, 2) := by decide +kernel
theorem dX5_isTorn_7 : decode cX5_isTorn 7 = .ok (.iconst 0, 1) := by decide +kernel
theorem dX5_isTorn_8 : decode cX5_isTorn 8 = .ok (.istore 5, 2) := by decide +kernel
theorem dX5_isTorn_10 : decode cX5_isTorn 10 = .ok (.iload 5, 2) := by decide +kernel
theorem dX5_isTorn_12 : decode cX5_isTorn 12 = .ok (.aload_n 0, 1) := by decide +kernel
theorem dX5_isTorn_13 : decode cX5_isTorn 13 = .ok (.getfield 31, 3) := by decide +kernel
theorem dX5_isTorn_16 : decode cX5_isTorn 16 = .ok (.if_icmp .ge 47, 3) := by decide +kernel
theorem dX5_isTorn_19 : decode cX5_isTorn 19 = .ok (.aload_n 0, 1) := by decide +kernel
theorem dX5_isTorn_20 : decode cX5_isTorn 20 = .ok (.getfield 24, 3) := by decide +kernel
theorem dX5_isTorn_23 : decode cX5_isTorn 23 = .ok (.iload 5, 2) := by decide +kernel
theorem dX5_isTorn_25 : decode cX5_isTorn 25 = .ok (.iaload, 1) := by decide +kernel
theorem dX5_isTorn_26 : decode cX5_isTorn 26 = .ok (.iload_n 1, 1) := by decide +kernel
theorem dX5_isTorn_27 : decode cX5_isTorn 27 = .ok (.if_icmp .ne 30, 3) := by decide +kernel
theorem dX5_isTorn_30 : decode cX5_isTorn 30 = .ok (.iload_n 2, 1) := by decide +kernel
theorem dX5_isTorn_31 : decode cX5_isTorn 31 = .ok (.iconst 1, 1) := by decide +kernel
theorem dX5_isTorn_32 : decode cX5_isTorn 32 = .ok (.aload_n 0, 1) := by decide +kernel
theorem dX5_isTorn_33 : decode cX5_isTorn 33 = .ok (.getfield 9, 3) := by decide +kernel
theorem dX5_isTorn_36 : decode cX5_isTorn 36 = .ok (.iload 5, 2) := by decide +kernel
theorem dX5_isTorn_38 : decode cX5_isTorn 38 = .ok (.iaload, 1) := by decide +kernel
theorem dX5_isTorn_39 : decode cX5_isTorn 39 = .ok (.ishl, 1) := by decide +kernel
theorem dX5_isTorn_40 : decode cX5_isTorn 40 = .ok (.ior, 1) := by decide +kernel
theorem dX5_isTorn_41 : decode cX5_isTorn 41 = .ok (.istore_n 2, 1) := by decide +kernel
theorem dX5_isTorn_42 : decode cX5_isTorn 42 = .ok (.iload_n 3, 1) := by decide +kernel
theorem dX5_isTorn_43 : decode cX5_isTorn 43 = .ok (.iconst 1, 1) := by decide +kernel
theorem dX5_isTorn_44 : decode cX5_isTorn 44 = .ok (.aload_n 0, 1) := by decide +kernel
theorem dX5_isTorn_45 : decode cX5_isTorn 45 = .ok (.getfield 15, 3) := by decide +kernel
theorem dX5_isTorn_48 : decode cX5_isTorn 48 = .ok (.iload 5, 2) := by decide +kernel
theorem dX5_isTorn_50 : decode cX5_isTorn 50 = .ok (.iaload, 1) := by decide +kernel
theorem dX5_isTorn_51 : decode cX5_isTorn 51 = .ok (.ishl, 1) := by decide +kernel
theorem dX5_isTorn_52 : decode cX5_isTorn 52 = .ok (.ior, 1) := by decide +kernel
theorem dX5_isTorn_53 : decode cX5_isTorn 53 = .ok (.istore_n 3, 1) := by decide +kernel
theorem dX5_isTorn_54 : decode cX5_isTorn 54 = .ok (.iinc 4 1, 3) := by decide +kernel
theorem dX5_isTorn_57 : decode cX5_isTorn 57 = .ok (.iinc 5 1, 3) := by decide +kernel
theorem dX5_isTorn_60 : decode cX5_isTorn 60 = .ok (.goto (-50), 3) := by decide +kernel
theorem dX5_isTorn_63 : decode cX5_isTorn 63 = .ok (.iload 4, 2) := by decide +kernel
theorem dX5_isTorn_65 : decode cX5_isTorn 65 = .ok (.ifCond .ne 5, 3) := by decide +kernel
theorem dX5_isTorn_68 : decode cX5_isTorn 68 = .ok (.iconst 0, 1) := by decide +kernel
theorem dX5_isTorn_69 : decode cX5_isTorn 69 = .ok (.ireturn, 1) := by decide +kernel
theorem dX5_isTorn_70 : decode cX5_isTorn 70 = .ok (.iload_n 2, 1) := by decide +kernel
theorem dX5_isTorn_71 : decode cX5_isTorn 71 = .ok (.invokestatic 55, 3) := by decide +kernel
theorem dX5_isTorn_74 : decode cX5_isTorn 74 = .ok (.iload 4, 2) := by decide +kernel
theorem dX5_isTorn_76 : decode cX5_isTorn 76 = .ok (.if_icmp .lt 24, 3) := by decide +kernel
theorem dX5_isTorn_79 : decode cX5_isTorn 79 = .ok (.iload_n 3, 1) := by decide +kernel
theorem dX5_isTorn_80 : decode cX5_isTorn 80 = .ok (.invokestatic 55, 3) := by decide +kernel
theorem dX5_isTorn_83 : decode cX5_isTorn 83 = .ok (.iload 4, 2) := by decide +kernel
theorem dX5_isTorn_85 : decode cX5_isTorn 85 = .ok (.if_icmp .lt 15, 3) := by decide +kernel
theorem dX5_isTorn_88 : decode cX5_isTorn 88 = .ok (.iload_n 2, 1) := by decide +kernel
theorem dX5_isTorn_89 : decode cX5_isTorn 89 = .ok (.iload_n 3, 1) := by decide +kernel
theorem dX5_isTorn_90 : decode cX5_isTorn 90 = .ok (.iconst (-1), 1) := by decide +kernel
theorem dX5_isTorn_91 : decode cX5_isTorn 91 = .ok (.ixor, 1) := by decide +kernel
theorem dX5_isTorn_92 : decode cX5_isTorn 92 = .ok (.iand, 1) := by decide +kernel
theorem dX5_isTorn_93 : decode cX5_isTorn 93 = .ok (.invokestatic 55, 3) := by decide +kernel
theorem dX5_isTorn_96 : decode cX5_isTorn 96 = .ok (.iconst 1, 1) := by decide +kernel
theorem dX5_isTorn_97 : decode cX5_isTorn 97 = .ok (.if_icmp .eq 7, 3) := by decide +kernel
theorem dX5_isTorn_100 : decode cX5_isTorn 100 = .ok (.iconst 1, 1) := by decide +kernel
theorem dX5_isTorn_101 : decode cX5_isTorn 101 = .ok (.goto 4, 3) := by decide +kernel
theorem dX5_isTorn_104 : decode cX5_isTorn 104 = .ok (.iconst 0, 1) := by decide +kernel
theorem dX5_isTorn_105 : decode cX5_isTorn 105 = .ok (.ireturn, 1) := by decide +kernel
theorem dX5_packed_0 : decode cX5_packed 0 = .ok (.aload_n 0, 1) := by decide +kernel
theorem dX5_packed_1 : decode cX5_packed 1 = .ok (.getfield 9, 3) := by decide +kernel
theorem dX5_packed_4 : decode cX5_packed 4 = .ok (.iload_n 1, 1) := by decide +kernel
theorem dX5_packed_5 : decode cX5_packed 5 = .ok (.iaload, 1) := by decide +kernel
theorem dX5_packed_6 : decode cX5_packed 6 = .ok (.aload_n 0, 1) := by decide +kernel
theorem dX5_packed_7 : decode cX5_packed 7 = .ok (.getfield 15, 3) := by decide +kernel
theorem dX5_packed_10 : decode cX5_packed 10 = .ok (.iload_n 1, 1) := by decide +kernel
theorem dX5_packed_11 : decode cX5_packed 11 = .ok (.iaload, 1) := by decide +kernel
theorem dX5_packed_12 : decode cX5_packed 12 = .ok (.iconst 5, 1) := by decide +kernel
theorem dX5_packed_13 : decode cX5_packed 13 = .ok (.ishl, 1) := by decide +kernel
theorem dX5_packed_14 : decode cX5_packed 14 = .ok (.ior, 1) := by decide +kernel
theorem dX5_packed_15 : decode cX5_packed 15 = .ok (.aload_n 0, 1) := by decide +kernel
theorem dX5_packed_16 : decode cX5_packed 16 = .ok (.getfield 18, 3) := by decide +kernel
theorem dX5_packed_19 : decode cX5_packed 19 = .ok (.iload_n 1, 1) := by decide +kernel
theorem dX5_packed_20 : decode cX5_packed 20 = .ok (.iaload, 1) := by decide +kernel
theorem dX5_packed_21 : decode cX5_packed 21 = .ok (.bipush 10, 2) := by decide +kernel
theorem dX5_packed_23 : decode cX5_packed 23 = .ok (.ishl, 1) := by decide +kernel
theorem dX5_packed_24 : decode cX5_packed 24 = .ok (.ior, 1) := by decide +kernel
theorem dX5_packed_25 : decode cX5_packed 25 = .ok (.aload_n 0, 1) := by decide +kernel
theorem dX5_packed_26 : decode cX5_packed 26 = .ok (.getfield 21, 3) := by decide +kernel
theorem dX5_packed_29 : decode cX5_packed 29 = .ok (.iload_n 1, 1) := by decide +kernel
theorem dX5_packed_30 : decode cX5_packed 30 = .ok (.iaload, 1) := by decide +kernel
theorem dX5_packed_31 : decode cX5_packed 31 = .ok (.bipush 17, 2) := by decide +kernel
theorem dX5_packed_33 : decode cX5_packed 33 = .ok (.ishl, 1) := by decide +kernel
theorem dX5_packed_34 : decode cX5_packed 34 = .ok (.ior, 1) := by decide +kernel
theorem dX5_packed_35 : decode cX5_packed 35 = .ok (.aload_n 0, 1) := by decide +kernel
theorem dX5_packed_36 : decode cX5_packed 36 = .ok (.getfield 24, 3) := by decide +kernel
theorem dX5_packed_39 : decode cX5_packed 39 = .ok (.iload_n 1, 1) := by decide +kernel
theorem dX5_packed_40 : decode cX5_packed 40 = .ok (.iaload, 1) := by decide +kernel
theorem dX5_packed_41 : decode cX5_packed 41 = .ok (.iconst 1, 1) := by decide +kernel
theorem dX5_packed_42 : decode cX5_packed 42 = .ok (.iadd, 1) := by decide +kernel
theorem dX5_packed_43 : decode cX5_packed 43 = .ok (.bipush 24, 2) := by decide +kernel
theorem dX5_packed_45 : decode cX5_packed 45 = .ok (.ishl, 1) := by decide +kernel
theorem dX5_packed_46 : decode cX5_packed 46 = .ok (.ior, 1) := by decide +kernel
theorem dX5_packed_47 : decode cX5_packed 47 = .ok (.ireturn, 1) := by decide +kernel
theorem dX5_unpack_0 : decode cX5_unpack 0 = .ok (.aload_n 0, 1) := by decide +kernel
theorem dX5_unpack_1 : decode cX5_unpack 1 = .ok (.getfield 9, 3) := by decide +kernel
theorem dX5_unpack_4 : decode cX5_unpack 4 = .ok (.iload_n 1, 1) := by decide +kernel
theorem dX5_unpack_5 : decode cX5_unpack 5 = .ok (.iload_n 2, 1) := by decide +kernel
theorem dX5_unpack_6 : decode cX5_unpack 6 = .ok (.bipush 31, 2) := by decide +kernel
theorem dX5_unpack_8 : decode cX5_unpack 8 = .ok (.iand, 1) := by decide +kernel
theorem dX5_unpack_9 : decode cX5_unpack 9 = .ok (.iastore, 1) := by decide +kernel
theorem dX5_unpack_10 : decode cX5_unpack 10 = .ok (.aload_n 0, 1) := by decide +kernel
theorem dX5_unpack_11 : decode cX5_unpack 11 = .ok (.getfield 15, 3) := by decide +kernel
theorem dX5_unpack_14 : decode cX5_unpack 14 = .ok (.iload_n 1, 1) := by decide +kernel
theorem dX5_unpack_15 : decode cX5_unpack 15 = .ok (.iload_n 2, 1) := by decide +kernel
theorem dX5_unpack_16 : decode cX5_unpack 16 = .ok (.iconst 5, 1) := by decide +kernel
theorem dX5_unpack_17 : decode cX5_unpack 17 = .ok (.ishr, 1) := by decide +kernel
theorem dX5_unpack_18 : decode cX5_unpack 18 = .ok (.bipush 31, 2) := by decide +kernel
theorem dX5_unpack_20 : decode cX5_unpack 20 = .ok (.iand, 1) := by decide +kernel
theorem dX5_unpack_21 : decode cX5_unpack 21 = .ok (.iastore, 1) := by decide +kernel
theorem dX5_unpack_22 : decode cX5_unpack 22 = .ok (.aload_n 0, 1) := by decide +kernel
theorem dX5_unpack_23 : decode cX5_unpack 23 = .ok (.getfield 18, 3) := by decide +kernel
theorem dX5_unpack_26 : decode cX5_unpack 26 = .ok (.iload_n 1, 1) := by decide +kernel
theorem dX5_unpack_27 : decode cX5_unpack 27 = .ok (.iload_n 2, 1) := by decide +kernel
theorem dX5_unpack_28 : decode cX5_unpack 28 = .ok (.bipush 10, 2) := by decide +kernel
theorem dX5_unpack_30 : decode cX5_unpack 30 = .ok (.ishr, 1) := by decide +kernel
theorem dX5_unpack_31 : decode cX5_unpack 31 = .ok (.bipush 127, 2) := by decide +kernel
theorem dX5_unpack_33 : decode cX5_unpack 33 = .ok (.iand, 1) := by decide +kernel
theorem dX5_unpack_34 : decode cX5_unpack 34 = .ok (.iastore, 1) := by decide +kernel
theorem dX5_unpack_35 : decode cX5_unpack 35 = .ok (.aload_n 0, 1) := by decide +kernel
theorem dX5_unpack_36 : decode cX5_unpack 36 = .ok (.getfield 21, 3) := by decide +kernel
theorem dX5_unpack_39 : decode cX5_unpack 39 = .ok (.iload_n 1, 1) := by decide +kernel
theorem dX5_unpack_40 : decode cX5_unpack 40 = .ok (.iload_n 2, 1) := by decide +kernel
theorem dX5_unpack_41 : decode cX5_unpack 41 = .ok (.bipush 17, 2) := by decide +kernel
theorem dX5_unpack_43 : decode cX5_unpack 43 = .ok (.ishr, 1) := by decide +kernel
theorem dX5_unpack_44 : decode cX5_unpack 44 = .ok (.bipush 127, 2) := by decide +kernel
theorem dX5_unpack_46 : decode cX5_unpack 46 = .ok (.iand, 1) := by decide +kernel
theorem dX5_unpack_47 : decode cX5_unpack 47 = .ok (.iastore, 1) := by decide +kernel
theorem dX5_unpack_48 : decode cX5_unpack 48 = .ok (.aload_n 0, 1) := by decide +kernel
theorem dX5_unpack_49 : decode cX5_unpack 49 = .ok (.getfield 24, 3) := by decide +kernel
theorem dX5_unpack_52 : decode cX5_unpack 52 = .ok (.iload_n 1, 1) := by decide +kernel
theorem dX5_unpack_53 : decode cX5_unpack 53 = .ok (.iload_n 2, 1) := by decide +kernel
theorem dX5_unpack_54 : decode cX5_unpack 54 = .ok (.bipush 24, 2) := by decide +kernel
theorem dX5_unpack_56 : decode cX5_unpack 56 = .ok (.ishr, 1) := by decide +kernel
theorem dX5_unpack_57 : decode cX5_unpack 57 = .ok (.bipush 15, 2) := by decide +kernel
theorem dX5_unpack_59 : decode cX5_unpack 59 = .ok (.iand, 1) := by decide +kernel
theorem dX5_unpack_60 : decode cX5_unpack 60 = .ok (.iconst 1, 1) := by decide +kernel
theorem dX5_unpack_61 : decode cX5_unpack 61 = .ok (.isub, 1) := by decide +kernel
theorem dX5_unpack_62 : decode cX5_unpack 62 = .ok (.iastore, 1) := by decide +kernel
theorem dX5_unpack_63 : decode cX5_unpack 63 = .ok (.return_, 1) := by decide +kernel
theorem dX6_init_0 : decode cX6_init 0 = .ok (.aload_n 0, 1) := by decide +kernel
theorem dX6_init_1 : decode cX6_init 1 = .ok (.invokespecial 3, 3) := by decide +kernel
theorem dX6_init_4 : decode cX6_init 4 = .ok (.aload_n 0, 1) := by decide +kernel
theorem dX6_init_5 : decode cX6_init 5 = .ok (.new 9, 3) := by decide +kernel
theorem dX6_init_8 : decode cX6_init 8 = .ok (.dup, 1) := by decide +kernel
theorem dX6_init_9 : decode cX6_init 9 = .ok (.invokespecial 11, 3) := by decide +kernel
theorem dX6_init_12 : decode cX6_init 12 = .ok (.putfield 12, 3) := by decide +kernel
theorem dX6_init_15 : decode cX6_init 15 = .ok (.aload_n 0, 1) := by decide +kernel
theorem dX6_init_16 : decode cX6_init 16 = .ok (.bipush 20, 2) := by decide +kernel
theorem dX6_init_18 : decode cX6_init 18 = .ok (.newarray .int, 2) := by decide +kernel
theorem dX6_init_20 : decode cX6_init 20 = .ok (.putfield 18, 3) := by decide +kernel
theorem dX6_init_23 : decode cX6_init 23 = .ok (.aload_n 0, 1) := by decide +kernel
theorem dX6_init_24 : decode cX6_init 24 = .ok (.bipush 10, 2) := by decide +kernel
theorem dX6_init_26 : decode cX6_init 26 = .ok (.newarray .int, 2) := by decide +kernel
theorem dX6_init_28 : decode cX6_init 28 = .ok (.putfield 22, 3) := by decide +kernel
theorem dX6_init_31 : decode cX6_init 31 = .ok (.aload_n 0, 1) := by decide +kernel
theorem dX6_init_32 : decode cX6_init 32 = .ok (.iconst (-1), 1) := by decide +kernel
theorem dX6_init_33 : decode cX6_init 33 = .ok (.putfield 25, 3) := by decide +kernel
theorem dX6_init_36 : decode cX6_init 36 = .ok (.aload_n 0, 1) := by decide +kernel
theorem dX6_init_37 : decode cX6_init 37 = .ok (.aload_n 1, 1) := by decide +kernel
theorem dX6_init_38 : decode cX6_init 38 = .ok (.putfield 29, 3) := by decide +kernel
theorem dX6_init_41 : decode cX6_init 41 = .ok (.return_, 1) := by decide +kernel
theorem dX6_read_0 : decode cX6_read 0 = .ok (.aload_n 0, 1) := by decide +kernel
theorem dX6_read_1 : decode cX6_read 1 = .ok (.iconst 0, 1) := by decide +kernel
theorem dX6_read_2 : decode cX6_read 2 = .ok (.putfield 33, 3) := by decide +kernel
theorem dX6_read_5 : decode cX6_read 5 = .ok (.aload_n 0, 1) := by decide +kernel
theorem dX6_read_6 : decode cX6_read 6 = .ok (.getfield 12, 3) := by decide +kernel
theorem dX6_read_9 : decode cX6_read 9 = .ok (.iconst 0, 1) := by decide +kernel
theorem dX6_read_10 : decode cX6_read 10 = .ok (.putfield 36, 3) := by decide +kernel
theorem dX6_read_13 : decode cX6_read 13 = .ok (.aload_n 0, 1) := by decide +kernel
theorem dX6_read_14 : decode cX6_read 14 = .ok (.getfield 12, 3) := by decide +kernel
theorem dX6_read_17 : decode cX6_read 17 = .ok (.iconst 0, 1) := by decide +kernel
theorem dX6_read_18 : decode cX6_read 18 = .ok (.putfield 39, 3) := by decide +kernel
theorem dX6_read_21 : decode cX6_read 21 = .ok (.aload_n 0, 1) := by decide +kernel
theorem dX6_read_22 : decode cX6_read 22 = .ok (.iconst 0, 1) := by decide +kernel
theorem dX6_read_23 : decode cX6_read 23 = .ok (.putfield 42, 3) := by decide +kernel
theorem dX6_read_26 : decode cX6_read 26 = .ok (.aload_n 0, 1) := by decide +kernel
theorem dX6_read_27 : decode cX6_read 27 = .ok (.iconst 0, 1) := by decide +kernel
theorem dX6_read_28 : decode cX6_read 28 = .ok (.putfield 45, 3) := by decide +kernel
theorem dX6_read_31 : decode cX6_read 31 = .ok (.aload_n 0, 1) := by decide +kernel
theorem dX6_read_32 : decode cX6_read 32 = .ok (.iconst (-1), 1) := by decide +kernel
theorem dX6_read_33 : decode cX6_read 33 = .ok (.putfield 25, 3) := by decide +kernel
theorem dX6_read_36 : decode cX6_read 36 = .ok (.aload_n 0, 1) := by decide +kernel
theorem dX6_read_37 : decode cX6_read 37 = .ok (.invokevirtual 48, 3) := by decide +kernel
theorem dX6_read_40 : decode cX6_read 40 = .ok (.ifCond .ne 5, 3) := by decide +kernel
theorem dX6_read_43 : decode cX6_read 43 = .ok (.iconst 0, 1) := by decide +kernel
theorem dX6_read_44 : decode cX6_read 44 = .ok (.ireturn, 1) := by decide +kernel
theorem dX6_read_45 : decode cX6_read 45 = .ok (.iconst 0, 1) := by decide +kernel
theorem dX6_read_46 : decode cX6_read 46 = .ok (.istore_n 1, 1) := by decide +kernel
theorem dX6_read_47 : decode cX6_read 47 = .ok (.iload_n 1, 1) := by decide +kernel
theorem dX6_read_48 : decode cX6_read 48 = .ok (.bipush 30, 2) := by decide +kernel
theorem dX6_read_50 : decode cX6_read 50 = .ok (.if_icmp .gt 38, 3) := by decide +kernel
theorem dX6_read_53 : decode cX6_read 53 = .ok (.aload_n 0, 1) := by decide +kernel
theorem dX6_read_54 : decode cX6_read 54 = .ok (.invokevirtual 52, 3) := by decide +kernel
theorem dX6_read_57 : decode cX6_read 57 = .ok (.aload_n 0, 1) := by decide +kernel
theorem dX6_read_58 : decode cX6_read 58 = .ok (.getfield 33, 3) := by decide +kernel
theorem dX6_read_61 : decode cX6_read 61 = .ok (.aload_n 0, 1) := by decide +kernel
theorem dX6_read_62 : decode cX6_read 62 = .ok (.getfield 29, 3) := by decide +kernel
theorem dX6_read_65 : decode cX6_read 65 = .ok (.getfield 55, 3) := by decide +kernel
theorem dX6_read_68 : decode cX6_read 68 = .ok (.if_icmp .lt 5, 3) := by decide +kernel
theorem dX6_read_71 : decode cX6_read 71 = .ok (.iconst 1, 1) := by decide +kernel
theorem dX6_read_72 : decode cX6_read 72 = .ok (.ireturn, 1) := by decide +kernel
theorem dX6_read_73 : decode cX6_read 73 = .ok (.aload_n 0, 1) := by decide +kernel
theorem dX6_read_74 : decode cX6_read 74 = .ok (.invokevirtual 60, 3) := by decide +kernel
theorem dX6_read_77 : decode cX6_read 77 = .ok (.ifCond .ne 5, 3) := by decide +kernel
theorem dX6_read_80 : decode cX6_read 80 = .ok (.iconst 0, 1) := by decide +kernel
theorem dX6_read_81 : decode cX6_read 81 = .ok (.ireturn, 1) := by decide +kernel
theorem dX6_read_82 : decode cX6_read 82 = .ok (.iinc 1 1, 3) := by decide +kernel
theorem dX6_read_85 : decode cX6_read 85 = .ok (.goto (-38), 3) := by decide +kernel
theorem dX6_read_88 : decode cX6_read 88 = .ok (.iconst 0, 1) := by decide +kernel
theorem dX6_read_89 : decode cX6_read 89 = .ok (.ireturn, 1) := by decide +kernel
theorem dX6_readPlaces_0 : decode cX6_readPlaces 0 = .ok (.aload_n 0, 1) := by decide +kernel
theorem dX6_readPlaces_1 : decode cX6_readPlaces 1 = .ok (.ldc 63, 2) := by decide +kernel
theorem dX6_readPlaces_3 : decode cX6_readPlaces 3 = .ok (.invokevirtual 64, 3) := by decide +kernel
theorem dX6_readPlaces_6 : decode cX6_readPlaces 6 = .ok (.ifCond .ne 5, 3) := by decide +kernel
theorem dX6_readPlaces_9 : decode cX6_readPlaces 9 = .ok (.iconst 0, 1) := by decide +kernel
theorem dX6_readPlaces_10 : decode cX6_readPlaces 10 = .ok (.ireturn, 1) := by decide +kernel
theorem dX6_readPlaces_11 : decode cX6_readPlaces 11 = .ok (.iconst 0, 1) := by decide +kernel
theorem dX6_readPlaces_12 : decode cX6_readPlaces 12 = .ok (.istore_n 1, 1) := by decide +kernel
theorem dX6_readPlaces_13 : decode cX6_readPlaces 13 = .ok (.iload_n 1, 1) := by decide +kernel
theorem dX6_readPlaces_14 : decode cX6_readPlaces 14 = .ok (.bipush 20, 2) := by decide +kernel
theorem dX6_readPlaces_16 : decode cX6_readPlaces 16 = .ok (.if_icmp .gt 32, 3) := by decide +kernel
theorem dX6_readPlaces_19 : decode cX6_readPlaces 19 = .ok (.aload_n 0, 1) := by decide +kernel
theorem dX6_readPlaces_20 : decode cX6_readPlaces 20 = .ok (.invokevirtual 68, 3) := by decide +kernel
theorem dX6_readPlaces_23 : decode cX6_readPlaces 23 = .ok (.ifCond .ne 5, 3) := by decide +kernel
theorem dX6_readPlaces_26 : decode cX6_readPlaces 26 = .ok (.iconst 0, 1) := by decide +kernel
theorem dX6_readPlaces_27 : decode cX6_readPlaces 27 = .ok (.ireturn, 1) := by decide +kernel
theorem dX6_readPlaces_28 : decode cX6_readPlaces 28 = .ok (.aload_n 0, 1) := by decide +kernel
theorem dX6_readPlaces_29 : decode cX6_readPlaces 29 = .ok (.bipush 44, 2) := by decide +kernel
theorem dX6_readPlaces_31 : decode cX6_readPlaces 31 = .ok (.invokevirtual 71, 3) := by decide +kernel
theorem dX6_readPlaces_34 : decode cX6_readPlaces 34 = .ok (.ifCond .ne 8, 3) := by decide +kernel
theorem dX6_readPlaces_37 : decode cX6_readPlaces 37 = .ok (.aload_n 0, 1) := by decide +kernel
theorem dX6_readPlaces_38 : decode cX6_readPlaces 38 = .ok (.invokevirtual 75, 3) := by decide +kernel
theorem dX6_readPlaces_41 : decode cX6_readPlaces 41 = .ok (.ireturn, 1) := by decide +kernel
theorem dX6_readPlaces_42 : decode cX6_readPlaces 42 = .ok (.iinc 1 1, 3) := by decide +kernel
theorem dX6_readPlaces_45 : decode cX6_readPlaces 45 = .ok (.goto (-32), 3) := by decide +kernel
theorem dX6_readPlaces_48 : decode cX6_readPlaces 48 = .ok (.iconst 0, 1) := by decide +kernel
theorem dX6_readPlaces_49 : decode cX6_readPlaces 49 = .ok (.ireturn, 1) := by decide +kernel
theorem dX6_readNewPlace_0 : decode cX6_readNewPlace 0 = .ok (.aload_n 0, 1) := by decide +kernel
theorem dX6_readNewPlace_1 : decode cX6_readNewPlace 1 = .ok (.invokevirtual 52, 3) := by decide +kernel
theorem dX6_readNewPlace_4 : decode cX6_readNewPlace 4 = .ok (.aload_n 0, 1) := by decide +kernel
theorem dX6_readNewPlace_5 : decode cX6_readNewPlace 5 = .ok (.getfield 12, 3) := by decide +kernel
theorem dX6_readNewPlace_8 : decode cX6_readNewPlace 8 = .ok (.getfield 36, 3) := by decide +kernel
theorem dX6_readNewPlace_11 : decode cX6_readNewPlace 11 = .ok (.bipush 20, 2) := by decide +kernel
theorem dX6_readNewPlace_13 : decode cX6_readNewPlace 13 = .ok (.if_icmp .ne 27, 3) := by decide +kernel
theorem dX6_readNewPlace_16 : decode cX6_readNewPlace 16 = .ok (.aload_n 0, 1) := by decide +kernel
theorem dX6_readNewPlace_17 : decode cX6_readNewPlace 17 = .ok (.getfield 33, 3) := by decide +kernel
theorem dX6_readNewPlace_20 : decode cX6_readNewPlace 20 = .ok (.aload_n 0, 1) := by decide +kernel
theorem dX6_readNewPlace_21 : decode cX6_readNewPlace 21 = .ok (.getfield 29, 3) := by decide +kernel
theorem dX6_readNewPlace_24 : decode cX6_readNewPlace 24 = .ok (.getfield 55, 3) := by decide +kernel
theorem dX6_readNewPlace_27 : decode cX6_readNewPlace 27 = .ok (.if_icmp .ge 13, 3) := by decide +kernel
theorem dX6_readNewPlace_30 : decode cX6_readNewPlace 30 = .ok (.aload_n 0, 1) := by decide +kernel
theorem dX6_readNewPlace_31 : decode cX6_readNewPlace 31 = .ok (.iconst 5, 1) := by decide +kernel
theorem dX6_readNewPlace_32 : decode cX6_readNewPlace 32 = .ok (.aload_n 0, 1) := by decide +kernel
theorem dX6_readNewPlace_33 : decode cX6_readNewPlace 33 = .ok (.getfield 33, 3) := by decide +kernel
theorem dX6_readNewPlace_36 : decode cX6_readNewPlace 36 = .ok (.invokevirtual 78, 3) := by decide +kernel
theorem dX6_readNewPlace_39 : decode cX6_readNewPlace 39 = .ok (.ireturn, 1) := by decide +kernel
theorem dX6_readNewPlace_40 : decode cX6_readNewPlace 40 = .ok (.aload_n 0, 1) := by decide +kernel
theorem dX6_readNewPlace_41 : decode cX6_readNewPlace 41 = .ok (.getfield 33, 3) := by decide +kernel
theorem dX6_readNewPlace_44 : decode cX6_readNewPlace 44 = .ok (.istore_n 1, 1) := by decide +kernel
theorem dX6_readNewPlace_45 : decode cX6_readNewPlace 45 = .ok (.aload_n 0, 1) := by decide +kernel
theorem dX6_readNewPlace_46 : decode cX6_readNewPlace 46 = .ok (.invokevirtual 82, 3) := by decide +kernel
theorem dX6_readNewPlace_49 : decode cX6_readNewPlace 49 = .ok (.istore_n 2, 1) := by decide +kernel
theorem dX6_readNewPlace_50 : decode cX6_readNewPlace 50 = .ok (.iload_n 2, 1) := by decide +kernel
theorem dX6_readNewPlace_51 : decode cX6_readNewPlace 51 = .ok (.iconst (-1), 1) := by decide +kernel
theorem dX6_readNewPlace_52 : decode cX6_readNewPlace 52 = .ok (.if_icmp .ne 5, 3) := by decide +kernel
theorem dX6_readNewPlace_55 : decode cX6_readNewPlace 55 = .ok (.iconst 0, 1) := by decide +kernel
theorem dX6_readNewPlace_56 : decode cX6_readNewPlace 56 = .ok (.ireturn, 1) := by decide +kernel
theorem dX6_readNewPlace_57 : decode cX6_readNewPlace 57 = .ok (.aload_n 0, 1) := by decide +kernel
theorem dX6_readNewPlace_58 : decode cX6_readNewPlace 58 = .ok (.getfield 18, 3) := by decide +kernel
theorem dX6_readNewPlace_61 : decode cX6_readNewPlace 61 = .ok (.aload_n 0, 1) := by decide +kernel
theorem dX6_readNewPlace_62 : decode cX6_readNewPlace 62 = .ok (.getfield 12, 3) := by decide +kernel
theorem dX6_readNewPlace_65 : decode cX6_readNewPlace 65 = .ok (.getfield 36, 3) := by decide +kernel
theorem dX6_readNewPlace_68 : decode cX6_readNewPlace 68 = .ok (.iload_n 2, 1) := by decide +kernel
theorem dX6_readNewPlace_69 : decode cX6_readNewPlace 69 = .ok (.invokestatic 86, 3) := by decide +kernel
theorem dX6_readNewPlace_72 : decode cX6_readNewPlace 72 = .ok (.iconst (-1), 1) := by decide +kernel
theorem dX6_readNewPlace_73 : decode cX6_readNewPlace 73 = .ok (.if_icmp .eq 10, 3) := by decide +kernel
theorem dX6_readNewPlace_76 : decode cX6_readNewPlace 76 = .ok (.aload_n 0, 1) := by decide +kernel
theorem dX6_readNewPlace_77 : decode cX6_readNewPlace 77 = .ok (.iconst 3, 1) := by decide +kernel
theorem dX6_readNewPlace_78 : decode cX6_readNewPlace 78 = .ok (.iload_n 1, 1) := by decide +kernel
theorem dX6_readNewPlace_79 : decode cX6_readNewPlace 79 = .ok (.invokevirtual 78, 3) := by decide +kernel
theorem dX6_readNewPlace_82 : decode cX6_readNewPlace 82 = .ok (.ireturn, 1) := by decide +kernel
theorem dX6_readNewPlace_83 : decode cX6_readNewPlace 83 = .ok (.aload_n 0, 1) := by decide +kernel
theorem dX6_readNewPlace_84 : decode cX6_readNewPlace 84 = .ok (.getfield 12, 3) := by decide +kernel
theorem dX6_readNewPlace_87 : decode cX6_readNewPlace 87 = .ok (.getfield 36, 3) := by decide +kernel
theorem dX6_readNewPlace_90 : decode cX6_readNewPlace 90 = .ok (.bipush 20, 2) := by decide +kernel
theorem dX6_readNewPlace_92 : decode cX6_readNewPlace 92 = .ok (.if_icmp .ge 29, 3) := by decide +kernel
theorem dX6_readNewPlace_95 : decode cX6_readNewPlace 95 = .ok (.aload_n 0, 1) := by decide +kernel
theorem dX6_readNewPlace_96 : decode cX6_readNewPlace 96 = .ok (.getfield 18, 3) := by decide +kernel
theorem dX6_readNewPlace_99 : decode cX6_readNewPlace 99 = .ok (.aload_n 0, 1) := by decide +kernel
theorem dX6_readNewPlace_100 : decode cX6_readNewPlace 100 = .ok (.getfield 12, 3) := by decide +kernel
theorem dX6_readNewPlace_103 : decode cX6_readNewPlace 103 = .ok (.getfield 36, 3) := by decide +kernel
theorem dX6_readNewPlace_106 : decode cX6_readNewPlace 106 = .ok (.iload_n 2, 1) := by decide +kernel
theorem dX6_readNewPlace_107 : decode cX6_readNewPlace 107 = .ok (.iastore, 1) := by decide +kernel
theorem dX6_readNewPlace_108 : decode cX6_readNewPlace 108 = .ok (.aload_n 0, 1) := by decide +kernel
theorem dX6_readNewPlace_109 : decode cX6_readNewPlace 109 = .ok (.getfield 12, 3) := by decide +kernel
theorem dX6_readNewPlace_112 : decode cX6_readNewPlace 112 = .ok (.dup, 1) := by decide +kernel
theorem dX6_readNewPlace_113 : decode cX6_readNewPlace 113 = .ok (.getfield 36, 3) := by decide +kernel
theorem dX6_readNewPlace_116 : decode cX6_readNewPlace 116 = .ok (.iconst 1, 1) := by decide +kernel
theorem dX6_readNewPlace_117 : decode cX6_readNewPlace 117 = .ok (.iadd, 1) := by decide +kernel
theorem dX6_readNewPlace_118 : decode cX6_readNewPlace 118 = .ok (.putfield 36, 3) := by decide +kernel
theorem dX6_readNewPlace_121 : decode cX6_readNewPlace 121 = .ok (.iconst 1, 1) := by decide +kernel
theorem dX6_readNewPlace_122 : decode cX6_readNewPlace 122 = .ok (.ireturn, 1) := by decide +kernel
theorem dX6_readReach_0 : decode cX6_readReach 0 = .ok (.aload_n 0, 1) := by decide +kernel
theorem dX6_readReach_1 : decode cX6_readReach 1 = .ok (.getfield 33, 3) := by decide +kernel
theorem dX6_readReach_4 : decode cX6_readReach 4 = .ok (.istore_n 1, 1) := by decide +kernel
theorem dX6_readReach_5 : decode cX6_readReach 5 = .ok (.aload_n 0, 1) := by decide +kernel
theorem dX6_readReach_6 : decode cX6_readReach 6 = .ok (.ldc 90, 2) := by decide +kernel
theorem dX6_readReach_8 : decode cX6_readReach 8 = .ok (.invokevirtual 64, 3) := by decide +kernel
theorem dX6_readReach_11 : decode cX6_readReach 11 = .ok (.ifCond .ne 5, 3) := by decide +kernel
theorem dX6_readReach_14 : decode cX6_readReach 14 = .ok (.iconst 0, 1) := by decide +kernel
theorem dX6_readReach_15 : decode cX6_readReach 15 = .ok (.ireturn, 1) := by decide +kernel
theorem dX6_readReach_16 : decode cX6_readReach 16 = .ok (.aload_n 0, 1) := by decide +kernel
theorem dX6_readReach_17 : decode cX6_readReach 17 = .ok (.getfield 12, 3) := by decide +kernel
theorem dX6_readReach_20 : decode cX6_readReach 20 = .ok (.getfield 39, 3) := by decide +kernel
theorem dX6_readReach_23 : decode cX6_readReach 23 = .ok (.bipush 30, 2) := by decide +kernel
theorem dX6_readReach_25 : decode cX6_readReach 25 = .ok (.if_icmp .lt 10, 3) := by decide +kernel
theorem dX6_readReach_28 : decode cX6_readReach 28 = .ok (.aload_n 0, 1) := by decide +kernel
theorem dX6_readReach_29 : decode cX6_readReach 29 = .ok (.iconst 5, 1) := by decide +kernel
theorem dX6_readReach_30 : decode cX6_readReach 30 = .ok (.iload_n 1, 1) := by decide +kernel
theorem dX6_readReach_31 : decode cX6_readReach 31 = .ok (.invokevirtual 78, 3) := by decide +kernel
theorem dX6_readReach_34 : decode cX6_readReach 34 = .ok (.ireturn, 1) := by decide +kernel
theorem dX6_readReach_35 : decode cX6_readReach 35 = .ok (.aload_n 0, 1) := by decide +kernel
theorem dX6_readReach_36 : decode cX6_readReach 36 = .ok (.iconst (-1), 1) := by decide +kernel
theorem dX6_readReach_37 : decode cX6_readReach 37 = .ok (.invokevirtual 91, 3) := by decide +kernel
theorem dX6_readReach_40 : decode cX6_readReach 40 = .ok (.istore_n 2, 1) := by decide +kernel
theorem dX6_readReach_41 : decode cX6_readReach 41 = .ok (.iload_n 2, 1) := by decide +kernel
theorem dX6_readReach_42 : decode cX6_readReach 42 = .ok (.iconst (-1), 1) := by decide +kernel
theorem dX6_readReach_43 : decode cX6_readReach 43 = .ok (.if_icmp .eq 13, 3) := by decide +kernel
theorem dX6_readReach_46 : decode cX6_readReach 46 = .ok (.aload_n 0, 1) := by decide +kernel
theorem dX6_readReach_47 : decode cX6_readReach 47 = .ok (.sipush 500, 3) := by decide +kernel
theorem dX6_readReach_50 : decode cX6_readReach 50 = .ok (.invokevirtual 64, 3) := by decide +kernel
theorem dX6_readReach_53 : decode cX6_readReach 53 = .ok (.ifCond .ne 5, 3) := by decide +kernel
theorem dX6_readReach_56 : decode cX6_readReach 56 = .ok (.iconst 0, 1) := by decide +kernel
theorem dX6_readReach_57 : decode cX6_readReach 57 = .ok (.ireturn, 1) := by decide +kernel
theorem dX6_readReach_58 : decode cX6_readReach 58 = .ok (.aload_n 0, 1) := by decide +kernel
theorem dX6_readReach_59 : decode cX6_readReach 59 = .ok (.iload_n 2, 1) := by decide +kernel
theorem dX6_readReach_60 : decode cX6_readReach 60 = .ok (.invokevirtual 91, 3) := by decide +kernel
theorem dX6_readReach_63 : decode cX6_readReach 63 = .ok (.istore_n 3, 1) := by decide +kernel
theorem dX6_readReach_64 : decode cX6_readReach 64 = .ok (.iload_n 3, 1) := by decide +kernel
theorem dX6_readReach_65 : decode cX6_readReach 65 = .ok (.iconst (-1), 1) := by decide +kernel
theorem dX6_readReach_66 : decode cX6_readReach 66 = .ok (.if_icmp .eq 12, 3) := by decide +kernel
theorem dX6_readReach_69 : decode cX6_readReach 69 = .ok (.aload_n 0, 1) := by decide +kernel
theorem dX6_readReach_70 : decode cX6_readReach 70 = .ok (.ldc 95, 2) := by decide +kernel
theorem dX6_readReach_72 : decode cX6_readReach 72 = .ok (.invokevirtual 64, 3) := by decide +kernel
theorem dX6_readReach_75 : decode cX6_readReach 75 = .ok (.ifCond .ne 5, 3) := by decide +kernel
theorem dX6_readReach_78 : decode cX6_readReach 78 = .ok (.iconst 0, 1) := by decide +kernel
theorem dX6_readReach_79 : decode cX6_readReach 79 = .ok (.ireturn, 1) := by decide +kernel
theorem dX6_readReach_80 : decode cX6_readReach 80 = .ok (.aload_n 0, 1) := by decide +kernel
theorem dX6_readReach_81 : decode cX6_readReach 81 = .ok (.iconst 1, 1) := by decide +kernel
theorem dX6_readReach_82 : decode cX6_readReach 82 = .ok (.invokevirtual 96, 3) := by decide +kernel
theorem dX6_readReach_85 : decode cX6_readReach 85 = .ok (.istore 4, 2) := by decide +kernel
theorem dX6_readReach_87 : decode cX6_readReach 87 = .ok (.iload 4, 2) := by decide +kernel
theorem dX6_readReach_89 : decode cX6_readReach 89 = .ok (.iconst (-1), 1) := by decide +kernel
theorem dX6_readReach_90 : decode cX6_readReach 90 = .ok (.if_icmp .ne 5, 3) := by decide +kernel
theorem dX6_readReach_93 : decode cX6_readReach 93 = .ok (.iconst 0, 1) := by decide +kernel
theorem dX6_readReach_94 : decode cX6_readReach 94 = .ok (.ireturn, 1) := by decide +kernel
theorem dX6_readReach_95 : decode cX6_readReach 95 = .ok (.aload_n 0, 1) := by decide +kernel
theorem dX6_readReach_96 : decode cX6_readReach 96 = .ok (.ldc 99, 2) := by decide +kernel
theorem dX6_readReach_98 : decode cX6_readReach 98 = .ok (.invokevirtual 100, 3) := by decide +kernel
theorem dX6_readReach_101 : decode cX6_readReach 101 = .ok (.ifCond .eq 11, 3) := by decide +kernel
theorem dX6_readReach_104 : decode cX6_readReach 104 = .ok (.aload_n 0, 1) := by decide +kernel
theorem dX6_readReach_105 : decode cX6_readReach 105 = .ok (.iconst 0, 1) := by decide +kernel
theorem dX6_readReach_106 : decode cX6_readReach 106 = .ok (.invokevirtual 96, 3) := by decide +kernel
theorem dX6_readReach_109 : decode cX6_readReach 109 = .ok (.goto 4, 3) := by decide +kernel
theorem dX6_readReach_112 : decode cX6_readReach 112 = .ok (.iconst 0, 1) := by decide +kernel
theorem dX6_readReach_113 : decode cX6_readReach 113 = .ok (.istore 5, 2) := by decide +kernel
theorem dX6_readReach_115 : decode cX6_readReach 115 = .ok (.iload 5, 2) := by decide +kernel
theorem dX6_readReach_117 : decode cX6_readReach 117 = .ok (.iconst (-1), 1) := by decide +kernel
theorem dX6_readReach_118 : decode cX6_readReach 118 = .ok (.if_icmp .ne 5, 3) := by decide +kernel
theorem dX6_readReach_121 : decode cX6_readReach 121 = .ok (.iconst 0, 1) := by decide +kernel
theorem dX6_readReach_122 : decode cX6_readReach 122 = .ok (.ireturn, 1) := by decide +kernel
theorem dX6_readReach_123 : decode cX6_readReach 123 = .ok (.aload_n 0, 1) := by decide +kernel
theorem dX6_readReach_124 : decode cX6_readReach 124 = .ok (.ldc 103, 2) := by decide +kernel
theorem dX6_readReach_126 : decode cX6_readReach 126 = .ok (.invokevirtual 100, 3) := by decide +kernel
theorem dX6_readReach_129 : decode cX6_readReach 129 = .ok (.ifCond .eq 10, 3) := by decide +kernel
theorem dX6_readReach_132 : decode cX6_readReach 132 = .ok (.aload_n 0, 1) := by decide +kernel
theorem dX6_readReach_133 : decode cX6_readReach 133 = .ok (.invokevirtual 104, 3) := by decide +kernel
theorem dX6_readReach_136 : decode cX6_readReach 136 = .ok (.goto 4, 3) := by decide +kernel
theorem dX6_readReach_139 : decode cX6_readReach 139 = .ok (.iconst (-1), 1) := by decide +kernel
theorem dX6_readReach_140 : decode cX6_readReach 140 = .ok (.istore 6, 2) := by decide +kernel
theorem dX6_readReach_142 : decode cX6_readReach 142 = .ok (.aload_n 0, 1) := by decide +kernel
theorem dX6_readReach_143 : decode cX6_readReach 143 = .ok (.getfield 45, 3) := by decide +kernel
theorem dX6_readReach_146 : decode cX6_readReach 146 = .ok (.ifCond .ne 10, 3) := by decide +kernel
theorem dX6_readReach_149 : decode cX6_readReach 149 = .ok (.aload_n 0, 1) := by decide +kernel
theorem dX6_readReach_150 : decode cX6_readReach 150 = .ok (.invokevirtual 75, 3) := by decide +kernel
theorem dX6_readReach_153 : decode cX6_readReach 153 = .ok (.ifCond .ne 5, 3) := by decide +kernel
theorem dX6_readReach_156 : decode cX6_readReach 156 = .ok (.iconst 0, 1) := by decide +kernel
theorem dX6_readReach_157 : decode cX6_readReach 157 = .ok (.ireturn, 1) := by decide +kernel
theorem dX6_readReach_158 : decode cX6_readReach 158 = .ok (.aload_n 0, 1) := by decide +kernel
theorem dX6_readReach_159 : decode cX6_readReach 159 = .ok (.getfield 12, 3) := by decide +kernel
theorem dX6_readReach_162 : decode cX6_readReach 162 = .ok (.iload_n 2, 1) := by decide +kernel
theorem dX6_readReach_163 : decode cX6_readReach 163 = .ok (.iload_n 3, 1) := by decide +kernel
theorem dX6_readReach_164 : decode cX6_readReach 164 = .ok (.iload 4, 2) := by decide +kernel
theorem dX6_readReach_166 : decode cX6_readReach 166 = .ok (.iload 5, 2) := by decide +kernel
theorem dX6_readReach_168 : decode cX6_readReach 168 = .ok (.iload 6, 2) := by decide +kernel
theorem dX6_readReach_170 : decode cX6_readReach 170 = .ok (.invokevirtual 107, 3) := by decide +kernel
theorem dX6_readReach_173 : decode cX6_readReach 173 = .ok (.iconst 1, 1) := by decide +kernel
theorem dX6_readReach_174 : decode cX6_readReach 174 = .ok (.ireturn, 1) := by decide +kernel
theorem dX6_readOldPlace_0 : decode cX6_readOldPlace 0 = .ok (.aload_n 0, 1) := by decide +kernel
theorem dX6_readOldPlace_1 : decode cX6_readOldPlace 1 = .ok (.invokevirtual 52, 3) := by decide +kernel
theorem dX6_readOldPlace_4 : decode cX6_readOldPlace 4 = .ok (.aload_n 0, 1) := by decide +kernel
theorem dX6_readOldPlace_5 : decode cX6_readOldPlace 5 = .ok (.getfield 33, 3) := by decide +kernel
theorem dX6_readOldPlace_8 : decode cX6_readOldPlace 8 = .ok (.istore_n 2, 1) := by decide +kernel
theorem dX6_readOldPlace_9 : decode cX6_readOldPlace 9 = .ok (.aload_n 0, 1) := by decide +kernel
theorem dX6_readOldPlace_10 : decode cX6_readOldPlace 10 = .ok (.invokevirtual 82, 3) := by decide +kernel
theorem dX6_readOldPlace_13 : decode cX6_readOldPlace 13 = .ok (.istore_n 3, 1) := by decide +kernel
theorem dX6_readOldPlace_14 : decode cX6_readOldPlace 14 = .ok (.iload_n 3, 1) := by decide +kernel
theorem dX6_readOldPlace_15 : decode cX6_readOldPlace 15 = .ok (.iconst (-1), 1) := by decide +kernel
theorem dX6_readOldPlace_16 : decode cX6_readOldPlace 16 = .ok (.if_icmp .ne 5, 3) := by decide +kernel
theorem dX6_readOldPlace_19 : decode cX6_readOldPlace 19 = .ok (.iconst (-1), 1) := by decide +kernel
theorem dX6_readOldPlace_20 : decode cX6_readOldPlace 20 = .ok (.ireturn, 1) := by decide +kernel
theorem dX6_readOldPlace_21 : decode cX6_readOldPlace 21 = .ok (.aload_n 0, 1) := by decide +kernel
theorem dX6_readOldPlace_22 : decode cX6_readOldPlace 22 = .ok (.getfield 18, 3) := by decide +kernel
theorem dX6_readOldPlace_25 : decode cX6_readOldPlace 25 = .ok (.aload_n 0, 1) := by decide +kernel
theorem dX6_readOldPlace_26 : decode cX6_readOldPlace 26 = .ok (.getfield 12, 3) := by decide +kernel
theorem dX6_readOldPlace_29 : decode cX6_readOldPlace 29 = .ok (.getfield 36, 3) := by decide +kernel
theorem dX6_readOldPlace_32 : decode cX6_readOldPlace 32 = .ok (.iload_n 3, 1) := by decide +kernel
theorem dX6_readOldPlace_33 : decode cX6_readOldPlace 33 = .ok (.invokestatic 86, 3) := by decide +kernel
theorem dX6_readOldPlace_36 : decode cX6_readOldPlace 36 = .ok (.istore 4, 2) := by decide +kernel
theorem dX6_readOldPlace_38 : decode cX6_readOldPlace 38 = .ok (.iload 4, 2) := by decide +kernel
theorem dX6_readOldPlace_40 : decode cX6_readOldPlace 40 = .ok (.iconst (-1), 1) := by decide +kernel
theorem dX6_readOldPlace_41 : decode cX6_readOldPlace 41 = .ok (.if_icmp .ne 12, 3) := by decide +kernel
theorem dX6_readOldPlace_44 : decode cX6_readOldPlace 44 = .ok (.aload_n 0, 1) := by decide +kernel
theorem dX6_readOldPlace_45 : decode cX6_readOldPlace 45 = .ok (.iconst 3, 1) := by decide +kernel
theorem dX6_readOldPlace_46 : decode cX6_readOldPlace 46 = .ok (.iload_n 2, 1) := by decide +kernel
theorem dX6_readOldPlace_47 : decode cX6_readOldPlace 47 = .ok (.invokevirtual 78, 3) := by decide +kernel
theorem dX6_readOldPlace_50 : decode cX6_readOldPlace 50 = .ok (.pop, 1) := by decide +kernel
theorem dX6_readOldPlace_51 : decode cX6_readOldPlace 51 = .ok (.iconst (-1), 1) := by decide +kernel
theorem dX6_readOldPlace_52 : decode cX6_readOldPlace 52 = .ok (.ireturn, 1) := by decide +kernel
theorem dX6_readOldPlace_53 : decode cX6_readOldPlace 53 = .ok (.iload_n 1, 1) := by decide +kernel
theorem dX6_readOldPlace_54 : decode cX6_readOldPlace 54 = .ok (.iconst (-1), 1) := by decide +kernel
theorem dX6_readOldPlace_55 : decode cX6_readOldPlace 55 = .ok (.if_icmp .eq 26, 3) := by decide +kernel
theorem dX6_readOldPlace_58 : decode cX6_readOldPlace 58 = .ok (.aload_n 0, 1) := by decide +kernel
theorem dX6_readOldPlace_59 : decode cX6_readOldPlace 59 = .ok (.getfield 12, 3) := by decide +kernel
theorem dX6_readOldPlace_62 : decode cX6_readOldPlace 62 = .ok (.iload 4, 2) := by decide +kernel
theorem dX6_readOldPlace_64 : decode cX6_readOldPlace 64 = .ok (.iload_n 1, 1) := by decide +kernel
theorem dX6_readOldPlace_65 : decode cX6_readOldPlace 65 = .ok (.iconst (-1), 1) := by decide +kernel
theorem dX6_readOldPlace_66 : decode cX6_readOldPlace 66 = .ok (.invokevirtual 111, 3) := by decide +kernel
theorem dX6_readOldPlace_69 : decode cX6_readOldPlace 69 = .ok (.ifCond .eq 12, 3) := by decide +kernel
theorem dX6_readOldPlace_72 : decode cX6_readOldPlace 72 = .ok (.aload_n 0, 1) := by decide +kernel
theorem dX6_readOldPlace_73 : decode cX6_readOldPlace 73 = .ok (.iconst 4, 1) := by decide +kernel
theorem dX6_readOldPlace_74 : decode cX6_readOldPlace 74 = .ok (.iload_n 2, 1) := by decide +kernel
theorem dX6_readOldPlace_75 : decode cX6_readOldPlace 75 = .ok (.invokevirtual 78, 3) := by decide +kernel
theorem dX6_readOldPlace_78 : decode cX6_readOldPlace 78 = .ok (.pop, 1) := by decide +kernel
theorem dX6_readOldPlace_79 : decode cX6_readOldPlace 79 = .ok (.iconst (-1), 1) := by decide +kernel
theorem dX6_readOldPlace_80 : decode cX6_readOldPlace 80 = .ok (.ireturn, 1) := by decide +kernel
theorem dX6_readOldPlace_81 : decode cX6_readOldPlace 81 = .ok (.iload 4, 2) := by decide +kernel
theorem dX6_readOldPlace_83 : decode cX6_readOldPlace 83 = .ok (.ireturn, 1) := by decide +kernel
theorem dX6_readRiver_0 : decode cX6_readRiver 0 = .ok (.aload_n 0, 1) := by decide +kernel
theorem dX6_readRiver_1 : decode cX6_readRiver 1 = .ok (.invokevirtual 52, 3) := by decide +kernel
theorem dX6_readRiver_4 : decode cX6_readRiver 4 = .ok (.aload_n 0, 1) := by decide +kernel
theorem dX6_readRiver_5 : decode cX6_readRiver 5 = .ok (.getfield 33, 3) := by decide +kernel
theorem dX6_readRiver_8 : decode cX6_readRiver 8 = .ok (.istore_n 1, 1) := by decide +kernel
theorem dX6_readRiver_9 : decode cX6_readRiver 9 = .ok (.aload_n 0, 1) := by decide +kernel
theorem dX6_readRiver_10 : decode cX6_readRiver 10 = .ok (.invokevirtual 82, 3) := by decide +kernel
theorem dX6_readRiver_13 : decode cX6_readRiver 13 = .ok (.istore_n 2, 1) := by decide +kernel
theorem dX6_readRiver_14 : decode cX6_readRiver 14 = .ok (.iload_n 2, 1) := by decide +kernel
theorem dX6_readRiver_15 : decode cX6_readRiver 15 = .ok (.iconst (-1), 1) := by decide +kernel
theorem dX6_readRiver_16 : decode cX6_readRiver 16 = .ok (.if_icmp .ne 5, 3) := by decide +kernel
theorem dX6_readRiver_19 : decode cX6_readRiver 19 = .ok (.iconst (-1), 1) := by decide +kernel
theorem dX6_readRiver_20 : decode cX6_readRiver 20 = .ok (.ireturn, 1) := by decide +kernel
theorem dX6_readRiver_21 : decode cX6_readRiver 21 = .ok (.aload_n 0, 1) := by decide +kernel
theorem dX6_readRiver_22 : decode cX6_readRiver 22 = .ok (.getfield 22, 3) := by decide +kernel
theorem dX6_readRiver_25 : decode cX6_readRiver 25 = .ok (.aload_n 0, 1) := by decide +kernel
theorem dX6_readRiver_26 : decode cX6_readRiver 26 = .ok (.getfield 42, 3) := by decide +kernel
theorem dX6_readRiver_29 : decode cX6_readRiver 29 = .ok (.iload_n 2, 1) := by decide +kernel
theorem dX6_readRiver_30 : decode cX6_readRiver 30 = .ok (.invokestatic 86, 3) := by decide +kernel
theorem dX6_readRiver_33 : decode cX6_readRiver 33 = .ok (.istore_n 3, 1) := by decide +kernel
theorem dX6_readRiver_34 : decode cX6_readRiver 34 = .ok (.iload_n 3, 1) := by decide +kernel
theorem dX6_readRiver_35 : decode cX6_readRiver 35 = .ok (.iconst (-1), 1) := by decide +kernel
theorem dX6_readRiver_36 : decode cX6_readRiver 36 = .ok (.if_icmp .eq 5, 3) := by decide +kernel
theorem dX6_readRiver_39 : decode cX6_readRiver 39 = .ok (.iload_n 3, 1) := by decide +kernel
theorem dX6_readRiver_40 : decode cX6_readRiver 40 = .ok (.ireturn, 1) := by decide +kernel
theorem dX6_readRiver_41 : decode cX6_readRiver 41 = .ok (.aload_n 0, 1) := by decide +kernel
theorem dX6_readRiver_42 : decode cX6_readRiver 42 = .ok (.getfield 42, 3) := by decide +kernel
theorem dX6_readRiver_45 : decode cX6_readRiver 45 = .ok (.bipush 10, 2) := by decide +kernel
theorem dX6_readRiver_47 : decode cX6_readRiver 47 = .ok (.if_icmp .lt 12, 3) := by decide +kernel
theorem dX6_readRiver_50 : decode cX6_readRiver 50 = .ok (.aload_n 0, 1) := by decide +kernel
theorem dX6_readRiver_51 : decode cX6_readRiver 51 = .ok (.iconst 5, 1) := by decide +kernel
theorem dX6_readRiver_52 : decode cX6_readRiver 52 = .ok (.iload_n 1, 1) := by decide +kernel
theorem dX6_readRiver_53 : decode cX6_readRiver 53 = .ok (.invokevirtual 78, 3) := by decide +kernel
theorem dX6_readRiver_56 : decode cX6_readRiver 56 = .ok (.pop, 1) := by decide +kernel
theorem dX6_readRiver_57 : decode cX6_readRiver 57 = .ok (.iconst (-1), 1) := by decide +kernel
theorem dX6_readRiver_58 : decode cX6_readRiver 58 = .ok (.ireturn, 1) := by decide +kernel
theorem dX6_readRiver_59 : decode cX6_readRiver 59 = .ok (.aload_n 0, 1) := by decide +kernel
theorem dX6_readRiver_60 : decode cX6_readRiver 60 = .ok (.getfield 22, 3) := by decide +kernel
theorem dX6_readRiver_63 : decode cX6_readRiver 63 = .ok (.aload_n 0, 1) := by decide +kernel
theorem dX6_readRiver_64 : decode cX6_readRiver 64 = .ok (.getfield 42, 3) := by decide +kernel
theorem dX6_readRiver_67 : decode cX6_readRiver 67 = .ok (.iload_n 2, 1) := by decide +kernel
theorem dX6_readRiver_68 : decode cX6_readRiver 68 = .ok (.iastore, 1) := by decide +kernel
theorem dX6_readRiver_69 : decode cX6_readRiver 69 = .ok (.aload_n 0, 1) := by decide +kernel
theorem dX6_readRiver_70 : decode cX6_readRiver 70 = .ok (.dup, 1) := by decide +kernel
theorem dX6_readRiver_71 : decode cX6_readRiver 71 = .ok (.getfield 42, 3) := by decide +kernel
theorem dX6_readRiver_74 : decode cX6_readRiver 74 = .ok (.iconst 1, 1) := by decide +kernel
theorem dX6_readRiver_75 : decode cX6_readRiver 75 = .ok (.iadd, 1) := by decide +kernel
theorem dX6_readRiver_76 : decode cX6_readRiver 76 = .ok (.putfield 42, 3) := by decide +kernel
theorem dX6_readRiver_79 : decode cX6_readRiver 79 = .ok (.aload_n 0, 1) := by decide +kernel
theorem dX6_readRiver_80 : decode cX6_readRiver 80 = .ok (.getfield 42, 3) := by decide +kernel
theorem dX6_readRiver_83 : decode cX6_readRiver 83 = .ok (.iconst 1, 1) := by decide +kernel
theorem dX6_readRiver_84 : decode cX6_readRiver 84 = .ok (.isub, 1) := by decide +kernel
theorem dX6_readRiver_85 : decode cX6_readRiver 85 = .ok (.ireturn, 1) := by decide +kernel
theorem dX6_readName_0 : decode cX6_readName 0 = .ok (.aload_n 0, 1) := by decide +kernel
theorem dX6_readName_1 : decode cX6_readName 1 = .ok (.invokevirtual 115, 3) := by decide +kernel
theorem dX6_readName_4 : decode cX6_readName 4 = .ok (.istore_n 1, 1) := by decide +kernel
theorem dX6_readName_5 : decode cX6_readName 5 = .ok (.iload_n 1, 1) := by decide +kernel
theorem dX6_readName_6 : decode cX6_readName 6 = .ok (.aload_n 0, 1) := by decide +kernel
theorem dX6_readName_7 : decode cX6_readName 7 = .ok (.getfield 33, 3) := by decide +kernel
theorem dX6_readName_10 : decode cX6_readName 10 = .ok (.isub, 1) := by decide +kernel
theorem dX6_readName_11 : decode cX6_readName 11 = .ok (.bipush 6, 2) := by decide +kernel
theorem dX6_readName_13 : decode cX6_readName 13 = .ok (.if_icmp .le 18, 3) := by decide +kernel
theorem dX6_readName_16 : decode cX6_readName 16 = .ok (.aload_n 0, 1) := by decide +kernel
theorem dX6_readName_17 : decode cX6_readName 17 = .ok (.iconst 1, 1) := by decide +kernel
theorem dX6_readName_18 : decode cX6_readName 18 = .ok (.aload_n 0, 1) := by decide +kernel
theorem dX6_readName_19 : decode cX6_readName 19 = .ok (.getfield 33, 3) := by decide +kernel
theorem dX6_readName_22 : decode cX6_readName 22 = .ok (.bipush 6, 2) := by decide +kernel
theorem dX6_readName_24 : decode cX6_readName 24 = .ok (.iadd, 1) := by decide +kernel
theorem dX6_readName_25 : decode cX6_readName 25 = .ok (.invokevirtual 78, 3) := by decide +kernel
theorem dX6_readName_28 : decode cX6_readName 28 = .ok (.pop, 1) := by decide +kernel
theorem dX6_readName_29 : decode cX6_readName 29 = .ok (.iconst (-1), 1) := by decide +kernel
theorem dX6_readName_30 : decode cX6_readName 30 = .ok (.ireturn, 1) := by decide +kernel
theorem dX6_readName_31 : decode cX6_readName 31 = .ok (.aload_n 0, 1) := by decide +kernel
theorem dX6_readName_32 : decode cX6_readName 32 = .ok (.iload_n 1, 1) := by decide +kernel
theorem dX6_readName_33 : decode cX6_readName 33 = .ok (.invokevirtual 118, 3) := by decide +kernel
theorem dX6_readName_36 : decode cX6_readName 36 = .ok (.istore_n 2, 1) := by decide +kernel
theorem dX6_readName_37 : decode cX6_readName 37 = .ok (.iload_n 2, 1) := by decide +kernel
theorem dX6_readName_38 : decode cX6_readName 38 = .ok (.ifCond .eq 10, 3) := by decide +kernel
theorem dX6_readName_41 : decode cX6_readName 41 = .ok (.iload_n 2, 1) := by decide +kernel
theorem dX6_readName_42 : decode cX6_readName 42 = .ok (.invokestatic 121, 3) := by decide +kernel
theorem dX6_readName_45 : decode cX6_readName 45 = .ok (.ifCond .eq 15, 3) := by decide +kernel
theorem dX6_readName_48 : decode cX6_readName 48 = .ok (.aload_n 0, 1) := by decide +kernel
theorem dX6_readName_49 : decode cX6_readName 49 = .ok (.iconst 1, 1) := by decide +kernel
theorem dX6_readName_50 : decode cX6_readName 50 = .ok (.aload_n 0, 1) := by decide +kernel
theorem dX6_readName_51 : decode cX6_readName 51 = .ok (.getfield 33, 3) := by decide +kernel
theorem dX6_readName_54 : decode cX6_readName 54 = .ok (.invokevirtual 78, 3) := by decide +kernel
theorem dX6_readName_57 : decode cX6_readName 57 = .ok (.pop, 1) := by decide +kernel
theorem dX6_readName_58 : decode cX6_readName 58 = .ok (.iconst (-1), 1) := by decide +kernel
theorem dX6_readName_59 : decode cX6_readName 59 = .ok (.ireturn, 1) := by decide +kernel
theorem dX6_readName_60 : decode cX6_readName 60 = .ok (.aload_n 0, 1) := by decide +kernel
theorem dX6_readName_61 : decode cX6_readName 61 = .ok (.iload_n 1, 1) := by decide +kernel
theorem dX6_readName_62 : decode cX6_readName 62 = .ok (.putfield 33, 3) := by decide +kernel
theorem dX6_readName_65 : decode cX6_readName 65 = .ok (.iload_n 2, 1) := by decide +kernel
theorem dX6_readName_66 : decode cX6_readName 66 = .ok (.ireturn, 1) := by decide +kernel
theorem dX6_readNumber_0 : decode cX6_readNumber 0 = .ok (.aload_n 0, 1) := by decide +kernel
theorem dX6_readNumber_1 : decode cX6_readNumber 1 = .ok (.getfield 29, 3) := by decide +kernel
theorem dX6_readNumber_4 : decode cX6_readNumber 4 = .ok (.aload_n 0, 1) := by decide +kernel
theorem dX6_readNumber_5 : decode cX6_readNumber 5 = .ok (.getfield 33, 3) := by decide +kernel
theorem dX6_readNumber_8 : decode cX6_readNumber 8 = .ok (.invokevirtual 124, 3) := by decide +kernel
theorem dX6_readNumber_11 : decode cX6_readNumber 11 = .ok (.invokestatic 126, 3) := by decide +kernel
theorem dX6_readNumber_14 : decode cX6_readNumber 14 = .ok (.ifCond .eq 15, 3) := by decide +kernel
theorem dX6_readNumber_17 : decode cX6_readNumber 17 = .ok (.aload_n 0, 1) := by decide +kernel
theorem dX6_readNumber_18 : decode cX6_readNumber 18 = .ok (.iconst 1, 1) := by decide +kernel
theorem dX6_readNumber_19 : decode cX6_readNumber 19 = .ok (.aload_n 0, 1) := by decide +kernel
theorem dX6_readNumber_20 : decode cX6_readNumber 20 = .ok (.getfield 33, 3) := by decide +kernel
theorem dX6_readNumber_23 : decode cX6_readNumber 23 = .ok (.invokevirtual 78, 3) := by decide +kernel
theorem dX6_readNumber_26 : decode cX6_readNumber 26 = .ok (.pop, 1) := by decide +kernel
theorem dX6_readNumber_27 : decode cX6_readNumber 27 = .ok (.iconst (-1), 1) := by decide +kernel
theorem dX6_readNumber_28 : decode cX6_readNumber 28 = .ok (.ireturn, 1) := by decide +kernel
theorem dX6_readNumber_29 : decode cX6_readNumber 29 = .ok (.aload_n 0, 1) := by decide +kernel
theorem dX6_readNumber_30 : decode cX6_readNumber 30 = .ok (.invokevirtual 52, 3) := by decide +kernel
theorem dX6_readNumber_33 : decode cX6_readNumber 33 = .ok (.aload_n 0, 1) := by decide +kernel
theorem dX6_readNumber_34 : decode cX6_readNumber 34 = .ok (.getfield 33, 3) := by decide +kernel
theorem dX6_readNumber_37 : decode cX6_readNumber 37 = .ok (.istore_n 2, 1) := by decide +kernel
theorem dX6_readNumber_38 : decode cX6_readNumber 38 = .ok (.iconst 0, 1) := by decide +kernel
theorem dX6_readNumber_39 : decode cX6_readNumber 39 = .ok (.istore_n 3, 1) := by decide +kernel
theorem dX6_readNumber_40 : decode cX6_readNumber 40 = .ok (.iconst 0, 1) := by decide +kernel
theorem dX6_readNumber_41 : decode cX6_readNumber 41 = .ok (.istore 4, 2) := by decide +kernel
theorem dX6_readNumber_43 : decode cX6_readNumber 43 = .ok (.iload 4, 2) := by decide +kernel
theorem dX6_readNumber_45 : decode cX6_readNumber 45 = .ok (.iconst 2, 1) := by decide +kernel
theorem dX6_readNumber_46 : decode cX6_readNumber 46 = .ok (.if_icmp .ge 56, 3) := by decide +kernel
theorem dX6_readNumber_49 : decode cX6_readNumber 49 = .ok (.aload_n 0, 1) := by decide +kernel
theorem dX6_readNumber_50 : decode cX6_readNumber 50 = .ok (.getfield 29, 3) := by decide +kernel
theorem dX6_readNumber_53 : decode cX6_readNumber 53 = .ok (.aload_n 0, 1) := by decide +kernel
theorem dX6_readNumber_54 : decode cX6_readNumber 54 = .ok (.getfield 33, 3) := by decide +kernel
theorem dX6_readNumber_57 : decode cX6_readNumber 57 = .ok (.invokevirtual 124, 3) := by decide +kernel
theorem dX6_readNumber_60 : decode cX6_readNumber 60 = .ok (.invokestatic 126, 3) := by decide +kernel
theorem dX6_readNumber_63 : decode cX6_readNumber 63 = .ok (.ifCond .eq 39, 3) := by decide +kernel
theorem dX6_readNumber_66 : decode cX6_readNumber 66 = .ok (.bipush 10, 2) := by decide +kernel
theorem dX6_readNumber_68 : decode cX6_readNumber 68 = .ok (.iload_n 3, 1) := by decide +kernel
theorem dX6_readNumber_69 : decode cX6_readNumber 69 = .ok (.imul, 1) := by decide +kernel
theorem dX6_readNumber_70 : decode cX6_readNumber 70 = .ok (.aload_n 0, 1) := by decide +kernel
theorem dX6_readNumber_71 : decode cX6_readNumber 71 = .ok (.getfield 29, 3) := by decide +kernel
theorem dX6_readNumber_74 : decode cX6_readNumber 74 = .ok (.aload_n 0, 1) := by decide +kernel
theorem dX6_readNumber_75 : decode cX6_readNumber 75 = .ok (.getfield 33, 3) := by decide +kernel
theorem dX6_readNumber_78 : decode cX6_readNumber 78 = .ok (.invokevirtual 124, 3) := by decide +kernel
theorem dX6_readNumber_81 : decode cX6_readNumber 81 = .ok (.iadd, 1) := by decide +kernel
theorem dX6_readNumber_82 : decode cX6_readNumber 82 = .ok (.bipush 48, 2) := by decide +kernel
theorem dX6_readNumber_84 : decode cX6_readNumber 84 = .ok (.isub, 1) := by decide +kernel
theorem dX6_readNumber_85 : decode cX6_readNumber 85 = .ok (.istore_n 3, 1) := by decide +kernel
theorem dX6_readNumber_86 : decode cX6_readNumber 86 = .ok (.aload_n 0, 1) := by decide +kernel
theorem dX6_readNumber_87 : decode cX6_readNumber 87 = .ok (.dup, 1) := by decide +kernel
theorem dX6_readNumber_88 : decode cX6_readNumber 88 = .ok (.getfield 33, 3) := by decide +kernel
theorem dX6_readNumber_91 : decode cX6_readNumber 91 = .ok (.iconst 1, 1) := by decide +kernel
theorem dX6_readNumber_92 : decode cX6_readNumber 92 = .ok (.iadd, 1) := by decide +kernel
theorem dX6_readNumber_93 : decode cX6_readNumber 93 = .ok (.putfield 33, 3) := by decide +kernel
theorem dX6_readNumber_96 : decode cX6_readNumber 96 = .ok (.iinc 4 1, 3) := by decide +kernel
theorem dX6_readNumber_99 : decode cX6_readNumber 99 = .ok (.goto (-56), 3) := by decide +kernel
theorem dX6_readNumber_102 : decode cX6_readNumber 102 = .ok (.aload_n 0, 1) := by decide +kernel
theorem dX6_readNumber_103 : decode cX6_readNumber 103 = .ok (.getfield 33, 3) := by decide +kernel
theorem dX6_readNumber_106 : decode cX6_readNumber 106 = .ok (.iload_n 2, 1) := by decide +kernel
theorem dX6_readNumber_107 : decode cX6_readNumber 107 = .ok (.if_icmp .eq 20, 3) := by decide +kernel
theorem dX6_readNumber_110 : decode cX6_readNumber 110 = .ok (.aload_n 0, 1) := by decide +kernel
theorem dX6_readNumber_111 : decode cX6_readNumber 111 = .ok (.getfield 29, 3) := by decide +kernel
theorem dX6_readNumber_114 : decode cX6_readNumber 114 = .ok (.aload_n 0, 1) := by decide +kernel
theorem dX6_readNumber_115 : decode cX6_readNumber 115 = .ok (.getfield 33, 3) := by decide +kernel
theorem dX6_readNumber_118 : decode cX6_readNumber 118 = .ok (.invokevirtual 124, 3) := by decide +kernel
theorem dX6_readNumber_121 : decode cX6_readNumber 121 = .ok (.invokestatic 126, 3) := by decide +kernel
theorem dX6_readNumber_124 : decode cX6_readNumber 124 = .ok (.ifCond .eq 15, 3) := by decide +kernel
theorem dX6_readNumber_127 : decode cX6_readNumber 127 = .ok (.aload_n 0, 1) := by decide +kernel
theorem dX6_readNumber_128 : decode cX6_readNumber 128 = .ok (.iconst 1, 1) := by decide +kernel
theorem dX6_readNumber_129 : decode cX6_readNumber 129 = .ok (.aload_n 0, 1) := by decide +kernel
theorem dX6_readNumber_130 : decode cX6_readNumber 130 = .ok (.getfield 33, 3) := by decide +kernel
theorem dX6_readNumber_133 : decode cX6_readNumber 133 = .ok (.invokevirtual 78, 3) := by decide +kernel
theorem dX6_readNumber_136 : decode cX6_readNumber 136 = .ok (.pop, 1) := by decide +kernel
theorem dX6_readNumber_137 : decode cX6_readNumber 137 = .ok (.iconst (-1), 1) := by decide +kernel
theorem dX6_readNumber_138 : decode cX6_readNumber 138 = .ok (.ireturn, 1) := by decide +kernel
theorem dX6_readNumber_139 : decode cX6_readNumber 139 = .ok (.iload_n 3, 1) := by decide +kernel
theorem dX6_readNumber_140 : decode cX6_readNumber 140 = .ok (.iload_n 1, 1) := by decide +kernel
theorem dX6_readNumber_141 : decode cX6_readNumber 141 = .ok (.if_icmp .ge 12, 3) := by decide +kernel
theorem dX6_readNumber_144 : decode cX6_readNumber 144 = .ok (.aload_n 0, 1) := by decide +kernel
theorem dX6_readNumber_145 : decode cX6_readNumber 145 = .ok (.iconst 2, 1) := by decide +kernel
theorem dX6_readNumber_146 : decode cX6_readNumber 146 = .ok (.iload_n 2, 1) := by decide +kernel
theorem dX6_readNumber_147 : decode cX6_readNumber 147 = .ok (.invokevirtual 78, 3) := by decide +kernel
theorem dX6_readNumber_150 : decode cX6_readNumber 150 = .ok (.pop, 1) := by decide +kernel
theorem dX6_readNumber_151 : decode cX6_readNumber 151 = .ok (.iconst (-1), 1) := by decide +kernel
theorem dX6_readNumber_152 : decode cX6_readNumber 152 = .ok (.ireturn, 1) := by decide +kernel
theorem dX6_readNumber_153 : decode cX6_readNumber 153 = .ok (.aload_n 0, 1) := by decide +kernel
theorem dX6_readNumber_154 : decode cX6_readNumber 154 = .ok (.getfield 29, 3) := by decide +kernel
theorem dX6_readNumber_157 : decode cX6_readNumber 157 = .ok (.aload_n 0, 1) := by decide +kernel
theorem dX6_readNumber_158 : decode cX6_readNumber 158 = .ok (.getfield 33, 3) := by decide +kernel
theorem dX6_readNumber_161 : decode cX6_readNumber 161 = .ok (.invokevirtual 124, 3) := by decide +kernel
theorem dX6_readNumber_164 : decode cX6_readNumber 164 = .ok (.invokestatic 129, 3) := by decide +kernel
theorem dX6_readNumber_167 : decode cX6_readNumber 167 = .ok (.ifCond .eq 15, 3) := by decide +kernel
theorem dX6_readNumber_170 : decode cX6_readNumber 170 = .ok (.aload_n 0, 1) := by decide +kernel
theorem dX6_readNumber_171 : decode cX6_readNumber 171 = .ok (.iconst 1, 1) := by decide +kernel
theorem dX6_readNumber_172 : decode cX6_readNumber 172 = .ok (.aload_n 0, 1) := by decide +kernel
theorem dX6_readNumber_173 : decode cX6_readNumber 173 = .ok (.getfield 33, 3) := by decide +kernel
theorem dX6_readNumber_176 : decode cX6_readNumber 176 = .ok (.invokevirtual 78, 3) := by decide +kernel
theorem dX6_readNumber_179 : decode cX6_readNumber 179 = .ok (.pop, 1) := by decide +kernel
theorem dX6_readNumber_180 : decode cX6_readNumber 180 = .ok (.iconst (-1), 1) := by decide +kernel
theorem dX6_readNumber_181 : decode cX6_readNumber 181 = .ok (.ireturn, 1) := by decide +kernel
theorem dX6_readNumber_182 : decode cX6_readNumber 182 = .ok (.iload_n 3, 1) := by decide +kernel
theorem dX6_readNumber_183 : decode cX6_readNumber 183 = .ok (.ireturn, 1) := by decide +kernel
theorem dX6_takeWord_0 : decode cX6_takeWord 0 = .ok (.aload_n 0, 1) := by decide +kernel
theorem dX6_takeWord_1 : decode cX6_takeWord 1 = .ok (.invokevirtual 52, 3) := by decide +kernel
theorem dX6_takeWord_4 : decode cX6_takeWord 4 = .ok (.aload_n 0, 1) := by decide +kernel
theorem dX6_takeWord_5 : decode cX6_takeWord 5 = .ok (.invokevirtual 115, 3) := by decide +kernel
theorem dX6_takeWord_8 : decode cX6_takeWord 8 = .ok (.istore_n 2, 1) := by decide +kernel
theorem dX6_takeWord_9 : decode cX6_takeWord 9 = .ok (.aload_n 0, 1) := by decide +kernel
theorem dX6_takeWord_10 : decode cX6_takeWord 10 = .ok (.iload_n 2, 1) := by decide +kernel
theorem dX6_takeWord_11 : decode cX6_takeWord 11 = .ok (.invokevirtual 118, 3) := by decide +kernel
theorem dX6_takeWord_14 : decode cX6_takeWord 14 = .ok (.iload_n 1, 1) := by decide +kernel
theorem dX6_takeWord_15 : decode cX6_takeWord 15 = .ok (.if_icmp .eq 5, 3) := by decide +kernel
theorem dX6_takeWord_18 : decode cX6_takeWord 18 = .ok (.iconst 0, 1) := by decide +kernel
theorem dX6_takeWord_19 : decode cX6_takeWord 19 = .ok (.ireturn, 1) := by decide +kernel
theorem dX6_takeWord_20 : decode cX6_takeWord 20 = .ok (.aload_n 0, 1) := by decide +kernel
theorem dX6_takeWord_21 : decode cX6_takeWord 21 = .ok (.iload_n 2, 1) := by decide +kernel
theorem dX6_takeWord_22 : decode cX6_takeWord 22 = .ok (.putfield 33, 3) := by decide +kernel
theorem dX6_takeWord_25 : decode cX6_takeWord 25 = .ok (.iconst 1, 1) := by decide +kernel
theorem dX6_takeWord_26 : decode cX6_takeWord 26 = .ok (.ireturn, 1) := by decide +kernel
theorem dX6_wantWord_0 : decode cX6_wantWord 0 = .ok (.aload_n 0, 1) := by decide +kernel
theorem dX6_wantWord_1 : decode cX6_wantWord 1 = .ok (.iload_n 1, 1) := by decide +kernel
theorem dX6_wantWord_2 : decode cX6_wantWord 2 = .ok (.invokevirtual 100, 3) := by decide +kernel
theorem dX6_wantWord_5 : decode cX6_wantWord 5 = .ok (.ifCond .ne 15, 3) := by decide +kernel
theorem dX6_wantWord_8 : decode cX6_wantWord 8 = .ok (.aload_n 0, 1) := by decide +kernel
theorem dX6_wantWord_9 : decode cX6_wantWord 9 = .ok (.iconst 1, 1) := by decide +kernel
theorem dX6_wantWord_10 : decode cX6_wantWord 10 = .ok (.aload_n 0, 1) := by decide +kernel
theorem dX6_wantWord_11 : decode cX6_wantWord 11 = .ok (.getfield 33, 3) := by decide +kernel
theorem dX6_wantWord_14 : decode cX6_wantWord 14 = .ok (.invokevirtual 78, 3) := by decide +kernel
theorem dX6_wantWord_17 : decode cX6_wantWord 17 = .ok (.ifCond .eq 7, 3) := by decide +kernel
theorem dX6_wantWord_20 : decode cX6_wantWord 20 = .ok (.iconst 1, 1) := by decide +kernel
theorem dX6_wantWord_21 : decode cX6_wantWord 21 = .ok (.goto 4, 3) := by decide +kernel
theorem dX6_wantWord_24 : decode cX6_wantWord 24 = .ok (.iconst 0, 1) := by decide +kernel
theorem dX6_wantWord_25 : decode cX6_wantWord 25 = .ok (.ireturn, 1) := by decide +kernel
theorem dX6_takeSign_0 : decode cX6_takeSign 0 = .ok (.aload_n 0, 1) := by decide +kernel
theorem dX6_takeSign_1 : decode cX6_takeSign 1 = .ok (.invokevirtual 52, 3) := by decide +kernel
theorem dX6_takeSign_4 : decode cX6_takeSign 4 = .ok (.aload_n 0, 1) := by decide +kernel
theorem dX6_takeSign_5 : decode cX6_takeSign 5 = .ok (.getfield 29, 3) := by decide +kernel
theorem dX6_takeSign_8 : decode cX6_takeSign 8 = .ok (.aload_n 0, 1) := by decide +kernel
theorem dX6_takeSign_9 : decode cX6_takeSign 9 = .ok (.getfield 33, 3) := by decide +kernel
theorem dX6_takeSign_12 : decode cX6_takeSign 12 = .ok (.invokevirtual 124, 3) := by decide +kernel
theorem dX6_takeSign_15 : decode cX6_takeSign 15 = .ok (.iload_n 1, 1) := by decide +kernel
theorem dX6_takeSign_16 : decode cX6_takeSign 16 = .ok (.if_icmp .eq 5, 3) := by decide +kernel
theorem dX6_takeSign_19 : decode cX6_takeSign 19 = .ok (.iconst 0, 1) := by decide +kernel
theorem dX6_takeSign_20 : decode cX6_takeSign 20 = .ok (.ireturn, 1) := by decide +kernel
theorem dX6_takeSign_21 : decode cX6_takeSign 21 = .ok (.aload_n 0, 1) := by decide +kernel
theorem dX6_takeSign_22 : decode cX6_takeSign 22 = .ok (.dup, 1) := by decide +kernel
theorem dX6_takeSign_23 : decode cX6_takeSign 23 = .ok (.getfield 33, 3) := by decide +kernel
theorem dX6_takeSign_26 : decode cX6_takeSign 26 = .ok (.iconst 1, 1) := by decide +kernel
theorem dX6_takeSign_27 : decode cX6_takeSign 27 = .ok (.iadd, 1) := by decide +kernel
theorem dX6_takeSign_28 : decode cX6_takeSign 28 = .ok (.putfield 33, 3) := by decide +kernel
theorem dX6_takeSign_31 : decode cX6_takeSign 31 = .ok (.iconst 1, 1) := by decide +kernel
theorem dX6_takeSign_32 : decode cX6_takeSign 32 = .ok (.ireturn, 1) := by decide +kernel
theorem dX6_wantEnd_0 : decode cX6_wantEnd 0 = .ok (.aload_n 0, 1) := by decide +kernel
theorem dX6_wantEnd_1 : decode cX6_wantEnd 1 = .ok (.bipush 59, 2) := by decide +kernel
theorem dX6_wantEnd_3 : decode cX6_wantEnd 3 = .ok (.invokevirtual 71, 3) := by decide +kernel
theorem dX6_wantEnd_6 : decode cX6_wantEnd 6 = .ok (.ifCond .ne 15, 3) := by decide +kernel
theorem dX6_wantEnd_9 : decode cX6_wantEnd 9 = .ok (.aload_n 0, 1) := by decide +kernel
theorem dX6_wantEnd_10 : decode cX6_wantEnd 10 = .ok (.iconst 1, 1) := by decide +kernel
theorem dX6_wantEnd_11 : decode cX6_wantEnd 11 = .ok (.aload_n 0, 1) := by decide +kernel
theorem dX6_wantEnd_12 : decode cX6_wantEnd 12 = .ok (.getfield 33, 3) := by decide +kernel
theorem dX6_wantEnd_15 : decode cX6_wantEnd 15 = .ok (.invokevirtual 78, 3) := by decide +kernel
theorem dX6_wantEnd_18 : decode cX6_wantEnd 18 = .ok (.ifCond .eq 7, 3) := by decide +kernel
theorem dX6_wantEnd_21 : decode cX6_wantEnd 21 = .ok (.iconst 1, 1) := by decide +kernel
theorem dX6_wantEnd_22 : decode cX6_wantEnd 22 = .ok (.goto 4, 3) := by decide +kernel
theorem dX6_wantEnd_25 : decode cX6_wantEnd 25 = .ok (.iconst 0, 1) := by decide +kernel
theorem dX6_wantEnd_26 : decode cX6_wantEnd 26 = .ok (.ireturn, 1) := by decide +kernel
theorem dX6_isOwnWord_0 : decode cX6_isOwnWord 0 = .ok (.iload_n 0, 1) := by decide +kernel
theorem dX6_isOwnWord_1 : decode cX6_isOwnWord 1 = .ok (.ldc 63, 2) := by decide +kernel
theorem dX6_isOwnWord_3 : decode cX6_isOwnWord 3 = .ok (.if_icmp .eq 34, 3) := by decide +kernel
theorem dX6_isOwnWord_6 : decode cX6_isOwnWord 6 = .ok (.iload_n 0, 1) := by decide +kernel
theorem dX6_isOwnWord_7 : decode cX6_isOwnWord 7 = .ok (.ldc 90, 2) := by decide +kernel
theorem dX6_isOwnWord_9 : decode cX6_isOwnWord 9 = .ok (.if_icmp .eq 28, 3) := by decide +kernel
theorem dX6_isOwnWord_12 : decode cX6_isOwnWord 12 = .ok (.iload_n 0, 1) := by decide +kernel
theorem dX6_isOwnWord_13 : decode cX6_isOwnWord 13 = .ok (.sipush 500, 3) := by decide +kernel
theorem dX6_isOwnWord_16 : decode cX6_isOwnWord 16 = .ok (.if_icmp .eq 21, 3) := by decide +kernel
theorem dX6_isOwnWord_19 : decode cX6_isOwnWord 19 = .ok (.iload_n 0, 1) := by decide +kernel
theorem dX6_isOwnWord_20 : decode cX6_isOwnWord 20 = .ok (.ldc 95, 2) := by decide +kernel
theorem dX6_isOwnWord_22 : decode cX6_isOwnWord 22 = .ok (.if_icmp .eq 15, 3) := by decide +kernel
theorem dX6_isOwnWord_25 : decode cX6_isOwnWord 25 = .ok (.iload_n 0, 1) := by decide +kernel
theorem dX6_isOwnWord_26 : decode cX6_isOwnWord 26 = .ok (.ldc 99, 2) := by decide +kernel
theorem dX6_isOwnWord_28 : decode cX6_isOwnWord 28 = .ok (.if_icmp .eq 9, 3) := by decide +kernel
theorem dX6_isOwnWord_31 : decode cX6_isOwnWord 31 = .ok (.iload_n 0, 1) := by decide +kernel
theorem dX6_isOwnWord_32 : decode cX6_isOwnWord 32 = .ok (.ldc 103, 2) := by decide +kernel
theorem dX6_isOwnWord_34 : decode cX6_isOwnWord 34 = .ok (.if_icmp .ne 7, 3) := by decide +kernel
theorem dX6_isOwnWord_37 : decode cX6_isOwnWord 37 = .ok (.iconst 1, 1) := by decide +kernel
theorem dX6_isOwnWord_38 : decode cX6_isOwnWord 38 = .ok (.goto 4, 3) := by decide +kernel
theorem dX6_isOwnWord_41 : decode cX6_isOwnWord 41 = .ok (.iconst 0, 1) := by decide +kernel
theorem dX6_isOwnWord_42 : decode cX6_isOwnWord 42 = .ok (.ireturn, 1) := by decide +kernel
theorem dX6_wordEnd_0 : decode cX6_wordEnd 0 = .ok (.aload_n 0, 1) := by decide +kernel
theorem dX6_wordEnd_1 : decode cX6_wordEnd 1 = .ok (.getfield 33, 3) := by decide +kernel
theorem dX6_wordEnd_4 : decode cX6_wordEnd 4 = .ok (.istore_n 1, 1) := by decide +kernel
theorem dX6_wordEnd_5 : decode cX6_wordEnd 5 = .ok (.iload_n 1, 1) := by decide +kernel
theorem dX6_wordEnd_6 : decode cX6_wordEnd 6 = .ok (.aload_n 0, 1) := by decide +kernel
theorem dX6_wordEnd_7 : decode cX6_wordEnd 7 = .ok (.getfield 29, 3) := by decide +kernel
theorem dX6_wordEnd_10 : decode cX6_wordEnd 10 = .ok (.getfield 55, 3) := by decide +kernel
theorem dX6_wordEnd_13 : decode cX6_wordEnd 13 = .ok (.if_icmp .ge 23, 3) := by decide +kernel
theorem dX6_wordEnd_16 : decode cX6_wordEnd 16 = .ok (.aload_n 0, 1) := by decide +kernel
theorem dX6_wordEnd_17 : decode cX6_wordEnd 17 = .ok (.getfield 29, 3) := by decide +kernel
theorem dX6_wordEnd_20 : decode cX6_wordEnd 20 = .ok (.iload_n 1, 1) := by decide +kernel
theorem dX6_wordEnd_21 : decode cX6_wordEnd 21 = .ok (.invokevirtual 124, 3) := by decide +kernel
theorem dX6_wordEnd_24 : decode cX6_wordEnd 24 = .ok (.invokestatic 129, 3) := by decide +kernel
theorem dX6_wordEnd_27 : decode cX6_wordEnd 27 = .ok (.ifCond .eq 9, 3) := by decide +kernel
theorem dX6_wordEnd_30 : decode cX6_wordEnd 30 = .ok (.iinc 1 1, 3) := by decide +kernel
theorem dX6_wordEnd_33 : decode cX6_wordEnd 33 = .ok (.goto (-28), 3) := by decide +kernel
theorem dX6_wordEnd_36 : decode cX6_wordEnd 36 = .ok (.iload_n 1, 1) := by decide +kernel
theorem dX6_wordEnd_37 : decode cX6_wordEnd 37 = .ok (.ireturn, 1) := by decide +kernel
theorem dX6_wordTo_0 : decode cX6_wordTo 0 = .ok (.iload_n 1, 1) := by decide +kernel
theorem dX6_wordTo_1 : decode cX6_wordTo 1 = .ok (.aload_n 0, 1) := by decide +kernel
theorem dX6_wordTo_2 : decode cX6_wordTo 2 = .ok (.getfield 33, 3) := by decide +kernel
theorem dX6_wordTo_5 : decode cX6_wordTo 5 = .ok (.isub, 1) := by decide +kernel
theorem dX6_wordTo_6 : decode cX6_wordTo 6 = .ok (.bipush 6, 2) := by decide +kernel
theorem dX6_wordTo_8 : decode cX6_wordTo 8 = .ok (.if_icmp .le 5, 3) := by decide +kernel
theorem dX6_wordTo_11 : decode cX6_wordTo 11 = .ok (.iconst (-1), 1) := by decide +kernel
theorem dX6_wordTo_12 : decode cX6_wordTo 12 = .ok (.ireturn, 1) := by decide +kernel
theorem dX6_wordTo_13 : decode cX6_wordTo 13 = .ok (.iconst 0, 1) := by decide +kernel
theorem dX6_wordTo_14 : decode cX6_wordTo 14 = .ok (.istore_n 2, 1) := by decide +kernel
theorem dX6_wordTo_15 : decode cX6_wordTo 15 = .ok (.iconst 0, 1) := by decide +kernel
theorem dX6_wordTo_16 : decode cX6_wordTo 16 = .ok (.istore_n 3, 1) := by decide +kernel
theorem dX6_wordTo_17 : decode cX6_wordTo 17 = .ok (.iload_n 3, 1) := by decide +kernel
theorem dX6_wordTo_18 : decode cX6_wordTo 18 = .ok (.iload_n 1, 1) := by decide +kernel
theorem dX6_wordTo_19 : decode cX6_wordTo 19 = .ok (.aload_n 0, 1) := by decide +kernel
theorem dX6_wordTo_20 : decode cX6_wordTo 20 = .ok (.getfield 33, 3) := by decide +kernel
theorem dX6_wordTo_23 : decode cX6_wordTo 23 = .ok (.isub, 1) := by decide +kernel
theorem dX6_wordTo_24 : decode cX6_wordTo 24 = .ok (.if_icmp .ge 32, 3) := by decide +kernel
theorem dX6_wordTo_27 : decode cX6_wordTo 27 = .ok (.iload_n 2, 1) := by decide +kernel
theorem dX6_wordTo_28 : decode cX6_wordTo 28 = .ok (.aload_n 0, 1) := by decide +kernel
theorem dX6_wordTo_29 : decode cX6_wordTo 29 = .ok (.getfield 29, 3) := by decide +kernel
theorem dX6_wordTo_32 : decode cX6_wordTo 32 = .ok (.aload_n 0, 1) := by decide +kernel
theorem dX6_wordTo_33 : decode cX6_wordTo 33 = .ok (.getfield 33, 3) := by decide +kernel
theorem dX6_wordTo_36 : decode cX6_wordTo 36 = .ok (.iload_n 3, 1) := by decide +kernel
theorem dX6_wordTo_37 : decode cX6_wordTo 37 = .ok (.iadd, 1) := by decide +kernel
theorem dX6_wordTo_38 : decode cX6_wordTo 38 = .ok (.invokevirtual 124, 3) := by decide +kernel
theorem dX6_wordTo_41 : decode cX6_wordTo 41 = .ok (.bipush 31, 2) := by decide +kernel
theorem dX6_wordTo_43 : decode cX6_wordTo 43 = .ok (.iand, 1) := by decide +kernel
theorem dX6_wordTo_44 : decode cX6_wordTo 44 = .ok (.iconst 5, 1) := by decide +kernel
theorem dX6_wordTo_45 : decode cX6_wordTo 45 = .ok (.iload_n 3, 1) := by decide +kernel
theorem dX6_wordTo_46 : decode cX6_wordTo 46 = .ok (.imul, 1) := by decide +kernel
theorem dX6_wordTo_47 : decode cX6_wordTo 47 = .ok (.ishl, 1) := by decide +kernel
theorem dX6_wordTo_48 : decode cX6_wordTo 48 = .ok (.ior, 1) := by decide +kernel
theorem dX6_wordTo_49 : decode cX6_wordTo 49 = .ok (.istore_n 2, 1) := by decide +kernel
theorem dX6_wordTo_50 : decode cX6_wordTo 50 = .ok (.iinc 3 1, 3) := by decide +kernel
theorem dX6_wordTo_53 : decode cX6_wordTo 53 = .ok (.goto (-36), 3) := by decide +kernel
theorem dX6_wordTo_56 : decode cX6_wordTo 56 = .ok (.iload_n 2, 1) := by decide +kernel
theorem dX6_wordTo_57 : decode cX6_wordTo 57 = .ok (.ireturn, 1) := by decide +kernel
theorem dX6_skipBlanks_0 : decode cX6_skipBlanks 0 = .ok (.aload_n 0, 1) := by decide +kernel
theorem dX6_skipBlanks_1 : decode cX6_skipBlanks 1 = .ok (.getfield 33, 3) := by decide +kernel
theorem dX6_skipBlanks_4 : decode cX6_skipBlanks 4 = .ok (.aload_n 0, 1) := by decide +kernel
theorem dX6_skipBlanks_5 : decode cX6_skipBlanks 5 = .ok (.getfield 29, 3) := by decide +kernel
theorem dX6_skipBlanks_8 : decode cX6_skipBlanks 8 = .ok (.getfield 55, 3) := by decide +kernel
theorem dX6_skipBlanks_11 : decode cX6_skipBlanks 11 = .ok (.if_icmp .ge 48, 3) := by decide +kernel
theorem dX6_skipBlanks_14 : decode cX6_skipBlanks 14 = .ok (.aload_n 0, 1) := by decide +kernel
theorem dX6_skipBlanks_15 : decode cX6_skipBlanks 15 = .ok (.getfield 29, 3) := by decide +kernel
theorem dX6_skipBlanks_18 : decode cX6_skipBlanks 18 = .ok (.aload_n 0, 1) := by decide +kernel
theorem dX6_skipBlanks_19 : decode cX6_skipBlanks 19 = .ok (.getfield 33, 3) := by decide +kernel
theorem dX6_skipBlanks_22 : decode cX6_skipBlanks 22 = .ok (.invokevirtual 124, 3) := by decide +kernel
theorem dX6_skipBlanks_25 : decode cX6_skipBlanks 25 = .ok (.bipush 10, 2) := by decide +kernel
theorem dX6_skipBlanks_27 : decode cX6_skipBlanks 27 = .ok (.if_icmp .eq 19, 3) := by decide +kernel
theorem dX6_skipBlanks_30 : decode cX6_skipBlanks 30 = .ok (.aload_n 0, 1) := by decide +kernel
theorem dX6_skipBlanks_31 : decode cX6_skipBlanks 31 = .ok (.getfield 29, 3) := by decide +kernel
theorem dX6_skipBlanks_34 : decode cX6_skipBlanks 34 = .ok (.aload_n 0, 1) := by decide +kernel
theorem dX6_skipBlanks_35 : decode cX6_skipBlanks 35 = .ok (.getfield 33, 3) := by decide +kernel
theorem dX6_skipBlanks_38 : decode cX6_skipBlanks 38 = .ok (.invokevirtual 124, 3) := by decide +kernel
theorem dX6_skipBlanks_41 : decode cX6_skipBlanks 41 = .ok (.bipush 32, 2) := by decide +kernel
theorem dX6_skipBlanks_43 : decode cX6_skipBlanks 43 = .ok (.if_icmp .ne 16, 3) := by decide +kernel
theorem dX6_skipBlanks_46 : decode cX6_skipBlanks 46 = .ok (.aload_n 0, 1) := by decide +kernel
theorem dX6_skipBlanks_47 : decode cX6_skipBlanks 47 = .ok (.dup, 1) := by decide +kernel
theorem dX6_skipBlanks_48 : decode cX6_skipBlanks 48 = .ok (.getfield 33, 3) := by decide +kernel
theorem dX6_skipBlanks_51 : decode cX6_skipBlanks 51 = .ok (.iconst 1, 1) := by decide +kernel
theorem dX6_skipBlanks_52 : decode cX6_skipBlanks 52 = .ok (.iadd, 1) := by decide +kernel
theorem dX6_skipBlanks_53 : decode cX6_skipBlanks 53 = .ok (.putfield 33, 3) := by decide +kernel
theorem dX6_skipBlanks_56 : decode cX6_skipBlanks 56 = .ok (.goto (-56), 3) := by decide +kernel
theorem dX6_skipBlanks_59 : decode cX6_skipBlanks 59 = .ok (.return_, 1) := by decide +kernel
theorem dX6_fail_0 : decode cX6_fail 0 = .ok (.aload_n 0, 1) := by decide +kernel
theorem dX6_fail_1 : decode cX6_fail 1 = .ok (.iload_n 1, 1) := by decide +kernel
theorem dX6_fail_2 : decode cX6_fail 2 = .ok (.putfield 45, 3) := by decide +kernel
theorem dX6_fail_5 : decode cX6_fail 5 = .ok (.aload_n 0, 1) := by decide +kernel
theorem dX6_fail_6 : decode cX6_fail 6 = .ok (.iload_n 2, 1) := by decide +kernel
theorem dX6_fail_7 : decode cX6_fail 7 = .ok (.putfield 25, 3) := by decide +kernel
theorem dX6_fail_10 : decode cX6_fail 10 = .ok (.iconst 0, 1) := by decide +kernel
theorem dX6_fail_11 : decode cX6_fail 11 = .ok (.ireturn, 1) := by decide +kernel
theorem dX6_find_0 : decode cX6_find 0 = .ok (.iconst 0, 1) := by decide +kernel
theorem dX6_find_1 : decode cX6_find 1 = .ok (.istore_n 3, 1) := by decide +kernel
theorem dX6_find_2 : decode cX6_find 2 = .ok (.iload_n 3, 1) := by decide +kernel
theorem dX6_find_3 : decode cX6_find 3 = .ok (.iload_n 1, 1) := by decide +kernel
theorem dX6_find_4 : decode cX6_find 4 = .ok (.if_icmp .ge 18, 3) := by decide +kernel
theorem dX6_find_7 : decode cX6_find 7 = .ok (.aload_n 0, 1) := by decide +kernel
theorem dX6_find_8 : decode cX6_find 8 = .ok (.iload_n 3, 1) := by decide +kernel
theorem dX6_find_9 : decode cX6_find 9 = .ok (.iaload, 1) := by decide +kernel
theorem dX6_find_10 : decode cX6_find 10 = .ok (.iload_n 2, 1) := by decide +kernel
theorem dX6_find_11 : decode cX6_find 11 = .ok (.if_icmp .ne 5, 3) := by decide +kernel
theorem dX6_find_14 : decode cX6_find 14 = .ok (.iload_n 3, 1) := by decide +kernel
theorem dX6_find_15 : decode cX6_find 15 = .ok (.ireturn, 1) := by decide +kernel
theorem dX6_find_16 : decode cX6_find 16 = .ok (.iinc 3 1, 3) := by decide +kernel
theorem dX6_find_19 : decode cX6_find 19 = .ok (.goto (-17), 3) := by decide +kernel
theorem dX6_find_22 : decode cX6_find 22 = .ok (.iconst (-1), 1) := by decide +kernel
theorem dX6_find_23 : decode cX6_find 23 = .ok (.ireturn, 1) := by decide +kernel
theorem dX6_isLetter_0 : decode cX6_isLetter 0 = .ok (.iload_n 0, 1) := by decide +kernel
theorem dX6_isLetter_1 : decode cX6_isLetter 1 = .ok (.bipush 97, 2) := by decide +kernel
theorem dX6_isLetter_3 : decode cX6_isLetter 3 = .ok (.if_icmp .lt 13, 3) := by decide +kernel
theorem dX6_isLetter_6 : decode cX6_isLetter 6 = .ok (.iload_n 0, 1) := by decide +kernel
theorem dX6_isLetter_7 : decode cX6_isLetter 7 = .ok (.bipush 122, 2) := by decide +kernel
theorem dX6_isLetter_9 : decode cX6_isLetter 9 = .ok (.if_icmp .gt 7, 3) := by decide +kernel
theorem dX6_isLetter_12 : decode cX6_isLetter 12 = .ok (.iconst 1, 1) := by decide +kernel
theorem dX6_isLetter_13 : decode cX6_isLetter 13 = .ok (.goto 4, 3) := by decide +kernel
theorem dX6_isLetter_16 : decode cX6_isLetter 16 = .ok (.iconst 0, 1) := by decide +kernel
theorem dX6_isLetter_17 : decode cX6_isLetter 17 = .ok (.ireturn, 1) := by decide +kernel
theorem dX6_isDigit_0 : decode cX6_isDigit 0 = .ok (.iload_n 0, 1) := by decide +kernel
theorem dX6_isDigit_1 : decode cX6_isDigit 1 = .ok (.bipush 48, 2) := by decide +kernel
theorem dX6_isDigit_3 : decode cX6_isDigit 3 = .ok (.if_icmp .lt 13, 3) := by decide +kernel
theorem dX6_isDigit_6 : decode cX6_isDigit 6 = .ok (.iload_n 0, 1) := by decide +kernel
theorem dX6_isDigit_7 : decode cX6_isDigit 7 = .ok (.bipush 57, 2) := by decide +kernel
theorem dX6_isDigit_9 : decode cX6_isDigit 9 = .ok (.if_icmp .gt 7, 3) := by decide +kernel
theorem dX6_isDigit_12 : decode cX6_isDigit 12 = .ok (.iconst 1, 1) := by decide +kernel
theorem dX6_isDigit_13 : decode cX6_isDigit 13 = .ok (.goto 4, 3) := by decide +kernel
theorem dX6_isDigit_16 : decode cX6_isDigit 16 = .ok (.iconst 0, 1) := by decide +kernel
theorem dX6_isDigit_17 : decode cX6_isDigit 17 = .ok (.ireturn, 1) := by decide +kernel
theorem dX7_init_0 : decode cX7_init 0 = .ok (.aload_n 0, 1) := by decide +kernel
theorem dX7_init_1 : decode cX7_init 1 = .ok (.invokespecial 3, 3) := by decide +kernel
theorem dX7_init_4 : decode cX7_init 4 = .ok (.aload_n 0, 1) := by decide +kernel
theorem dX7_init_5 : decode cX7_init 5 = .ok (.bipush 20, 2) := by decide +kernel
theorem dX7_init_7 : decode cX7_init 7 = .ok (.newarray .int, 2) := by decide +kernel
theorem dX7_init_9 : decode cX7_init 9 = .ok (.putfield 9, 3) := by decide +kernel
theorem dX7_init_12 : decode cX7_init 12 = .ok (.aload_n 0, 1) := by decide +kernel
theorem dX7_init_13 : decode cX7_init 13 = .ok (.bipush 30, 2) := by decide +kernel
theorem dX7_init_15 : decode cX7_init 15 = .ok (.newarray .int, 2) := by decide +kernel
theorem dX7_init_17 : decode cX7_init 17 = .ok (.putfield 15, 3) := by decide +kernel
theorem dX7_init_20 : decode cX7_init 20 = .ok (.aload_n 0, 1) := by decide +kernel
theorem dX7_init_21 : decode cX7_init 21 = .ok (.bipush 20, 2) := by decide +kernel
theorem dX7_init_23 : decode cX7_init 23 = .ok (.newarray .int, 2) := by decide +kernel
theorem dX7_init_25 : decode cX7_init 25 = .ok (.putfield 18, 3) := by decide +kernel
theorem dX7_init_28 : decode cX7_init 28 = .ok (.return_, 1) := by decide +kernel
theorem dX7_howManyWays_0 : decode cX7_howManyWays 0 = .ok (.aload_n 0, 1) := by decide +kernel
theorem dX7_howManyWays_1 : decode cX7_howManyWays 1 = .ok (.getfield 9, 3) := by decide +kernel
theorem dX7_howManyWays_4 : decode cX7_howManyWays 4 = .ok (.iconst 0, 1) := by decide +kernel
theorem dX7_howManyWays_5 : decode cX7_howManyWays 5 = .ok (.invokestatic 21, 3) := by decide +kernel
theorem dX7_howManyWays_8 : decode cX7_howManyWays 8 = .ok (.aload_n 0, 1) := by decide +kernel
theorem dX7_howManyWays_9 : decode cX7_howManyWays 9 = .ok (.getfield 9, 3) := by decide +kernel
theorem dX7_howManyWays_12 : decode cX7_howManyWays 12 = .ok (.iload_n 3, 1) := by decide +kernel
theorem dX7_howManyWays_13 : decode cX7_howManyWays 13 = .ok (.iconst 1, 1) := by decide +kernel
theorem dX7_howManyWays_14 : decode cX7_howManyWays 14 = .ok (.iastore, 1) := by decide +kernel
theorem dX7_howManyWays_15 : decode cX7_howManyWays 15 = .ok (.iconst 0, 1) := by decide +kernel
theorem dX7_howManyWays_16 : decode cX7_howManyWays 16 = .ok (.istore 5, 2) := by decide +kernel
theorem dX7_howManyWays_18 : decode cX7_howManyWays 18 = .ok (.iload 5, 2) := by decide +kernel
theorem dX7_howManyWays_20 : decode cX7_howManyWays 20 = .ok (.aload_n 1, 1) := by decide +kernel
theorem dX7_howManyWays_21 : decode cX7_howManyWays 21 = .ok (.getfield 27, 3) := by decide +kernel
theorem dX7_howManyWays_24 : decode cX7_howManyWays 24 = .ok (.if_icmp .ge 64, 3) := by decide +kernel
theorem dX7_howManyWays_27 : decode cX7_howManyWays 27 = .ok (.aload_n 2, 1) := by decide +kernel
theorem dX7_howManyWays_28 : decode cX7_howManyWays 28 = .ok (.getfield 33, 3) := by decide +kernel
theorem dX7_howManyWays_31 : decode cX7_howManyWays 31 = .ok (.iload 5, 2) := by decide +kernel
theorem dX7_howManyWays_33 : decode cX7_howManyWays 33 = .ok (.iaload, 1) := by decide +kernel
theorem dX7_howManyWays_34 : decode cX7_howManyWays 34 = .ok (.istore 6, 2) := by decide +kernel
theorem dX7_howManyWays_36 : decode cX7_howManyWays 36 = .ok (.aload_n 0, 1) := by decide +kernel
theorem dX7_howManyWays_37 : decode cX7_howManyWays 37 = .ok (.getfield 9, 3) := by decide +kernel
theorem dX7_howManyWays_40 : decode cX7_howManyWays 40 = .ok (.aload_n 1, 1) := by decide +kernel
theorem dX7_howManyWays_41 : decode cX7_howManyWays 41 = .ok (.getfield 38, 3) := by decide +kernel
theorem dX7_howManyWays_44 : decode cX7_howManyWays 44 = .ok (.iload 6, 2) := by decide +kernel
theorem dX7_howManyWays_46 : decode cX7_howManyWays 46 = .ok (.iaload, 1) := by decide +kernel
theorem dX7_howManyWays_47 : decode cX7_howManyWays 47 = .ok (.iaload, 1) := by decide +kernel
theorem dX7_howManyWays_48 : decode cX7_howManyWays 48 = .ok (.aload_n 0, 1) := by decide +kernel
theorem dX7_howManyWays_49 : decode cX7_howManyWays 49 = .ok (.getfield 9, 3) := by decide +kernel
theorem dX7_howManyWays_52 : decode cX7_howManyWays 52 = .ok (.aload_n 1, 1) := by decide +kernel
theorem dX7_howManyWays_53 : decode cX7_howManyWays 53 = .ok (.getfield 41, 3) := by decide +kernel
theorem dX7_howManyWays_56 : decode cX7_howManyWays 56 = .ok (.iload 6, 2) := by decide +kernel
theorem dX7_howManyWays_58 : decode cX7_howManyWays 58 = .ok (.iaload, 1) := by decide +kernel
theorem dX7_howManyWays_59 : decode cX7_howManyWays 59 = .ok (.iaload, 1) := by decide +kernel
theorem dX7_howManyWays_60 : decode cX7_howManyWays 60 = .ok (.iadd, 1) := by decide +kernel
theorem dX7_howManyWays_61 : decode cX7_howManyWays 61 = .ok (.istore 7, 2) := by decide +kernel
theorem dX7_howManyWays_63 : decode cX7_howManyWays 63 = .ok (.aload_n 0, 1) := by decide +kernel
theorem dX7_howManyWays_64 : decode cX7_howManyWays 64 = .ok (.getfield 9, 3) := by decide +kernel
theorem dX7_howManyWays_67 : decode cX7_howManyWays 67 = .ok (.aload_n 1, 1) := by decide +kernel
theorem dX7_howManyWays_68 : decode cX7_howManyWays 68 = .ok (.getfield 38, 3) := by decide +kernel
theorem dX7_howManyWays_71 : decode cX7_howManyWays 71 = .ok (.iload 6, 2) := by decide +kernel
theorem dX7_howManyWays_73 : decode cX7_howManyWays 73 = .ok (.iaload, 1) := by decide +kernel
theorem dX7_howManyWays_74 : decode cX7_howManyWays 74 = .ok (.iload 7, 2) := by decide +kernel
theorem dX7_howManyWays_76 : decode cX7_howManyWays 76 = .ok (.ldc 44, 2) := by decide +kernel
theorem dX7_howManyWays_78 : decode cX7_howManyWays 78 = .ok (.invokestatic 45, 3) := by decide +kernel
theorem dX7_howManyWays_81 : decode cX7_howManyWays 81 = .ok (.iastore, 1) := by decide +kernel
theorem dX7_howManyWays_82 : decode cX7_howManyWays 82 = .ok (.iinc 5 1, 3) := by decide +kernel
theorem dX7_howManyWays_85 : decode cX7_howManyWays 85 = .ok (.goto (-67), 3) := by decide +kernel
theorem dX7_howManyWays_88 : decode cX7_howManyWays 88 = .ok (.aload_n 0, 1) := by decide +kernel
theorem dX7_howManyWays_89 : decode cX7_howManyWays 89 = .ok (.getfield 9, 3) := by decide +kernel
theorem dX7_howManyWays_92 : decode cX7_howManyWays 92 = .ok (.iload 4, 2) := by decide +kernel
theorem dX7_howManyWays_94 : decode cX7_howManyWays 94 = .ok (.iaload, 1) := by decide +kernel
theorem dX7_howManyWays_95 : decode cX7_howManyWays 95 = .ok (.ireturn, 1) := by decide +kernel
theorem dX7_lengthOfWay_0 : decode cX7_lengthOfWay 0 = .ok (.aload_n 0, 1) := by decide +kernel
theorem dX7_lengthOfWay_1 : decode cX7_lengthOfWay 1 = .ok (.getfield 9, 3) := by decide +kernel
theorem dX7_lengthOfWay_4 : decode cX7_lengthOfWay 4 = .ok (.iconst (-1), 1) := by decide +kernel
theorem dX7_lengthOfWay_5 : decode cX7_lengthOfWay 5 = .ok (.invokestatic 21, 3) := by decide +kernel
theorem dX7_lengthOfWay_8 : decode cX7_lengthOfWay 8 = .ok (.aload_n 0, 1) := by decide +kernel
theorem dX7_lengthOfWay_9 : decode cX7_lengthOfWay 9 = .ok (.getfield 9, 3) := by decide +kernel
theorem dX7_lengthOfWay_12 : decode cX7_lengthOfWay 12 = .ok (.iload_n 3, 1) := by decide +kernel
theorem dX7_lengthOfWay_13 : decode cX7_lengthOfWay 13 = .ok (.iconst 0, 1) := by decide +kernel
theorem dX7_lengthOfWay_14 : decode cX7_lengthOfWay 14 = .ok (.iastore, 1) := by decide +kernel
theorem dX7_lengthOfWay_15 : decode cX7_lengthOfWay 15 = .ok (.iconst 0, 1) := by decide +kernel
theorem dX7_lengthOfWay_16 : decode cX7_lengthOfWay 16 = .ok (.istore 6, 2) := by decide +kernel
theorem dX7_lengthOfWay_18 : decode cX7_lengthOfWay 18 = .ok (.iload 6, 2) := by decide +kernel
theorem dX7_lengthOfWay_20 : decode cX7_lengthOfWay 20 = .ok (.aload_n 1, 1) := by decide +kernel
theorem dX7_lengthOfWay_21 : decode cX7_lengthOfWay 21 = .ok (.getfield 27, 3) := by decide +kernel
theorem dX7_lengthOfWay_24 : decode cX7_lengthOfWay 24 = .ok (.if_icmp .ge 115, 3) := by decide +kernel
theorem dX7_lengthOfWay_27 : decode cX7_lengthOfWay 27 = .ok (.aload_n 2, 1) := by decide +kernel
theorem dX7_lengthOfWay_28 : decode cX7_lengthOfWay 28 = .ok (.getfield 33, 3) := by decide +kernel
theorem dX7_lengthOfWay_31 : decode cX7_lengthOfWay 31 = .ok (.iload 6, 2) := by decide +kernel
theorem dX7_lengthOfWay_33 : decode cX7_lengthOfWay 33 = .ok (.iaload, 1) := by decide +kernel
theorem dX7_lengthOfWay_34 : decode cX7_lengthOfWay 34 = .ok (.istore 7, 2) := by decide +kernel
theorem dX7_lengthOfWay_36 : decode cX7_lengthOfWay 36 = .ok (.aload_n 0, 1) := by decide +kernel
theorem dX7_lengthOfWay_37 : decode cX7_lengthOfWay 37 = .ok (.getfield 9, 3) := by decide +kernel
theorem dX7_lengthOfWay_40 : decode cX7_lengthOfWay 40 = .ok (.aload_n 1, 1) := by decide +kernel
theorem dX7_lengthOfWay_41 : decode cX7_lengthOfWay 41 = .ok (.getfield 41, 3) := by decide +kernel
theorem dX7_lengthOfWay_44 : decode cX7_lengthOfWay 44 = .ok (.iload 7, 2) := by decide +kernel
theorem dX7_lengthOfWay_46 : decode cX7_lengthOfWay 46 = .ok (.iaload, 1) := by decide +kernel
theorem dX7_lengthOfWay_47 : decode cX7_lengthOfWay 47 = .ok (.iaload, 1) := by decide +kernel
theorem dX7_lengthOfWay_48 : decode cX7_lengthOfWay 48 = .ok (.iconst (-1), 1) := by decide +kernel
theorem dX7_lengthOfWay_49 : decode cX7_lengthOfWay 49 = .ok (.if_icmp .ne 6, 3) := by decide +kernel
theorem dX7_lengthOfWay_52 : decode cX7_lengthOfWay 52 = .ok (.goto 81, 3) := by decide +kernel
theorem dX7_lengthOfWay_55 : decode cX7_lengthOfWay 55 = .ok (.aload_n 0, 1) := by decide +kernel
theorem dX7_lengthOfWay_56 : decode cX7_lengthOfWay 56 = .ok (.getfield 9, 3) := by decide +kernel
theorem dX7_lengthOfWay_59 : decode cX7_lengthOfWay 59 = .ok (.aload_n 1, 1) := by decide +kernel
theorem dX7_lengthOfWay_60 : decode cX7_lengthOfWay 60 = .ok (.getfield 41, 3) := by decide +kernel
theorem dX7_lengthOfWay_63 : decode cX7_lengthOfWay 63 = .ok (.iload 7, 2) := by decide +kernel
theorem dX7_lengthOfWay_65 : decode cX7_lengthOfWay 65 = .ok (.iaload, 1) := by decide +kernel
theorem dX7_lengthOfWay_66 : decode cX7_lengthOfWay 66 = .ok (.iaload, 1) := by decide +kernel
theorem dX7_lengthOfWay_67 : decode cX7_lengthOfWay 67 = .ok (.aload_n 1, 1) := by decide +kernel
theorem dX7_lengthOfWay_68 : decode cX7_lengthOfWay 68 = .ok (.getfield 51, 3) := by decide +kernel
theorem dX7_lengthOfWay_71 : decode cX7_lengthOfWay 71 = .ok (.iload 7, 2) := by decide +kernel
theorem dX7_lengthOfWay_73 : decode cX7_lengthOfWay 73 = .ok (.iaload, 1) := by decide +kernel
theorem dX7_lengthOfWay_74 : decode cX7_lengthOfWay 74 = .ok (.iadd, 1) := by decide +kernel
theorem dX7_lengthOfWay_75 : decode cX7_lengthOfWay 75 = .ok (.istore 8, 2) := by decide +kernel
theorem dX7_lengthOfWay_77 : decode cX7_lengthOfWay 77 = .ok (.aload_n 0, 1) := by decide +kernel
theorem dX7_lengthOfWay_78 : decode cX7_lengthOfWay 78 = .ok (.getfield 9, 3) := by decide +kernel
theorem dX7_lengthOfWay_81 : decode cX7_lengthOfWay 81 = .ok (.aload_n 1, 1) := by decide +kernel
theorem dX7_lengthOfWay_82 : decode cX7_lengthOfWay 82 = .ok (.getfield 38, 3) := by decide +kernel
theorem dX7_lengthOfWay_85 : decode cX7_lengthOfWay 85 = .ok (.iload 7, 2) := by decide +kernel
theorem dX7_lengthOfWay_87 : decode cX7_lengthOfWay 87 = .ok (.iaload, 1) := by decide +kernel
theorem dX7_lengthOfWay_88 : decode cX7_lengthOfWay 88 = .ok (.iaload, 1) := by decide +kernel
theorem dX7_lengthOfWay_89 : decode cX7_lengthOfWay 89 = .ok (.istore 9, 2) := by decide +kernel
theorem dX7_lengthOfWay_91 : decode cX7_lengthOfWay 91 = .ok (.iload 9, 2) := by decide +kernel
theorem dX7_lengthOfWay_93 : decode cX7_lengthOfWay 93 = .ok (.iconst (-1), 1) := by decide +kernel
theorem dX7_lengthOfWay_94 : decode cX7_lengthOfWay 94 = .ok (.if_icmp .eq 25, 3) := by decide +kernel
theorem dX7_lengthOfWay_97 : decode cX7_lengthOfWay 97 = .ok (.iload 5, 2) := by decide +kernel
theorem dX7_lengthOfWay_99 : decode cX7_lengthOfWay 99 = .ok (.ifCond .eq 13, 3) := by decide +kernel
theorem dX7_lengthOfWay_102 : decode cX7_lengthOfWay 102 = .ok (.iload 8, 2) := by decide +kernel
theorem dX7_lengthOfWay_104 : decode cX7_lengthOfWay 104 = .ok (.iload 9, 2) := by decide +kernel
theorem dX7_lengthOfWay_106 : decode cX7_lengthOfWay 106 = .ok (.if_icmp .le 27, 3) := by decide +kernel
theorem dX7_lengthOfWay_109 : decode cX7_lengthOfWay 109 = .ok (.goto 10, 3) := by decide +kernel
theorem dX7_lengthOfWay_112 : decode cX7_lengthOfWay 112 = .ok (.iload 8, 2) := by decide +kernel
theorem dX7_lengthOfWay_114 : decode cX7_lengthOfWay 114 = .ok (.iload 9, 2) := by decide +kernel
theorem dX7_lengthOfWay_116 : decode cX7_lengthOfWay 116 = .ok (.if_icmp .ge 17, 3) := by decide +kernel
theorem dX7_lengthOfWay_119 : decode cX7_lengthOfWay 119 = .ok (.aload_n 0, 1) := by decide +kernel
theorem dX7_lengthOfWay_120 : decode cX7_lengthOfWay 120 = .ok (.getfield 9, 3) := by decide +kernel
theorem dX7_lengthOfWay_123 : decode cX7_lengthOfWay 123 = .ok (.aload_n 1, 1) := by decide +kernel
theorem dX7_lengthOfWay_124 : decode cX7_lengthOfWay 124 = .ok (.getfield 38, 3) := by decide +kernel
theorem dX7_lengthOfWay_127 : decode cX7_lengthOfWay 127 = .ok (.iload 7, 2) := by decide +kernel
theorem dX7_lengthOfWay_129 : decode cX7_lengthOfWay 129 = .ok (.iaload, 1) := by decide +kernel
theorem dX7_lengthOfWay_130 : decode cX7_lengthOfWay 130 = .ok (.iload 8, 2) := by decide +kernel
theorem dX7_lengthOfWay_132 : decode cX7_lengthOfWay 132 = .ok (.iastore, 1) := by decide +kernel
theorem dX7_lengthOfWay_133 : decode cX7_lengthOfWay 133 = .ok (.iinc 6 1, 3) := by decide +kernel
theorem dX7_lengthOfWay_136 : decode cX7_lengthOfWay 136 = .ok (.goto (-118), 3) := by decide +kernel
theorem dX7_lengthOfWay_139 : decode cX7_lengthOfWay 139 = .ok (.aload_n 0, 1) := by decide +kernel
theorem dX7_lengthOfWay_140 : decode cX7_lengthOfWay 140 = .ok (.getfield 9, 3) := by decide +kernel
theorem dX7_lengthOfWay_143 : decode cX7_lengthOfWay 143 = .ok (.iload 4, 2) := by decide +kernel
theorem dX7_lengthOfWay_145 : decode cX7_lengthOfWay 145 = .ok (.iaload, 1) := by decide +kernel
theorem dX7_lengthOfWay_146 : decode cX7_lengthOfWay 146 = .ok (.ireturn, 1) := by decide +kernel
theorem dX7_howManyStreams_0 : decode cX7_howManyStreams 0 = .ok (.iconst 0, 1) := by decide +kernel
theorem dX7_howManyStreams_1 : decode cX7_howManyStreams 1 = .ok (.istore 4, 2) := by decide +kernel
theorem dX7_howManyStreams_3 : decode cX7_howManyStreams 3 = .ok (.iconst 0, 1) := by decide +kernel
theorem dX7_howManyStreams_4 : decode cX7_howManyStreams 4 = .ok (.istore 5, 2) := by decide +kernel
theorem dX7_howManyStreams_6 : decode cX7_howManyStreams 6 = .ok (.iload 5, 2) := by decide +kernel
theorem dX7_howManyStreams_8 : decode cX7_howManyStreams 8 = .ok (.aload_n 1, 1) := by decide +kernel
theorem dX7_howManyStreams_9 : decode cX7_howManyStreams 9 = .ok (.getfield 27, 3) := by decide +kernel
theorem dX7_howManyStreams_12 : decode cX7_howManyStreams 12 = .ok (.if_icmp .ge 29, 3) := by decide +kernel
theorem dX7_howManyStreams_15 : decode cX7_howManyStreams 15 = .ok (.aload_n 0, 1) := by decide +kernel
theorem dX7_howManyStreams_16 : decode cX7_howManyStreams 16 = .ok (.getfield 15, 3) := by decide +kernel
theorem dX7_howManyStreams_19 : decode cX7_howManyStreams 19 = .ok (.iload 5, 2) := by decide +kernel
theorem dX7_howManyStreams_21 : decode cX7_howManyStreams 21 = .ok (.iload 5, 2) := by decide +kernel
theorem dX7_howManyStreams_23 : decode cX7_howManyStreams 23 = .ok (.iastore, 1) := by decide +kernel
theorem dX7_howManyStreams_24 : decode cX7_howManyStreams 24 = .ok (.aload_n 2, 1) := by decide +kernel
theorem dX7_howManyStreams_25 : decode cX7_howManyStreams 25 = .ok (.iload 5, 2) := by decide +kernel
theorem dX7_howManyStreams_27 : decode cX7_howManyStreams 27 = .ok (.iaload, 1) := by decide +kernel
theorem dX7_howManyStreams_28 : decode cX7_howManyStreams 28 = .ok (.iload_n 3, 1) := by decide +kernel
theorem dX7_howManyStreams_29 : decode cX7_howManyStreams 29 = .ok (.if_icmp .ne 6, 3) := by decide +kernel
theorem dX7_howManyStreams_32 : decode cX7_howManyStreams 32 = .ok (.iinc 4 1, 3) := by decide +kernel
theorem dX7_howManyStreams_35 : decode cX7_howManyStreams 35 = .ok (.iinc 5 1, 3) := by decide +kernel
theorem dX7_howManyStreams_38 : decode cX7_howManyStreams 38 = .ok (.goto (-32), 3) := by decide +kernel
theorem dX7_howManyStreams_41 : decode cX7_howManyStreams 41 = .ok (.iconst 0, 1) := by decide +kernel
theorem dX7_howManyStreams_42 : decode cX7_howManyStreams 42 = .ok (.istore 5, 2) := by decide +kernel
theorem dX7_howManyStreams_44 : decode cX7_howManyStreams 44 = .ok (.iload 5, 2) := by decide +kernel
theorem dX7_howManyStreams_46 : decode cX7_howManyStreams 46 = .ok (.aload_n 1, 1) := by decide +kernel
theorem dX7_howManyStreams_47 : decode cX7_howManyStreams 47 = .ok (.getfield 27, 3) := by decide +kernel
theorem dX7_howManyStreams_50 : decode cX7_howManyStreams 50 = .ok (.if_icmp .ge 95, 3) := by decide +kernel
theorem dX7_howManyStreams_53 : decode cX7_howManyStreams 53 = .ok (.iconst 0, 1) := by decide +kernel
theorem dX7_howManyStreams_54 : decode cX7_howManyStreams 54 = .ok (.istore 6, 2) := by decide +kernel
theorem dX7_howManyStreams_56 : decode cX7_howManyStreams 56 = .ok (.iload 6, 2) := by decide +kernel
theorem dX7_howManyStreams_58 : decode cX7_howManyStreams 58 = .ok (.aload_n 1, 1) := by decide +kernel
theorem dX7_howManyStreams_59 : decode cX7_howManyStreams 59 = .ok (.getfield 27, 3) := by decide +kernel
theorem dX7_howManyStreams_62 : decode cX7_howManyStreams 62 = .ok (.if_icmp .ge 77, 3) := by decide +kernel
theorem dX7_howManyStreams_65 : decode cX7_howManyStreams 65 = .ok (.aload_n 2, 1) := by decide +kernel
theorem dX7_howManyStreams_66 : decode cX7_howManyStreams 66 = .ok (.iload 5, 2) := by decide +kernel
theorem dX7_howManyStreams_68 : decode cX7_howManyStreams 68 = .ok (.iaload, 1) := by decide +kernel
theorem dX7_howManyStreams_69 : decode cX7_howManyStreams 69 = .ok (.iload_n 3, 1) := by decide +kernel
theorem dX7_howManyStreams_70 : decode cX7_howManyStreams 70 = .ok (.if_icmp .ne 63, 3) := by decide +kernel
theorem dX7_howManyStreams_73 : decode cX7_howManyStreams 73 = .ok (.aload_n 2, 1) := by decide +kernel
theorem dX7_howManyStreams_74 : decode cX7_howManyStreams 74 = .ok (.iload 6, 2) := by decide +kernel
theorem dX7_howManyStreams_76 : decode cX7_howManyStreams 76 = .ok (.iaload, 1) := by decide +kernel
theorem dX7_howManyStreams_77 : decode cX7_howManyStreams 77 = .ok (.iload_n 3, 1) := by decide +kernel
theorem dX7_howManyStreams_78 : decode cX7_howManyStreams 78 = .ok (.if_icmp .ne 55, 3) := by decide +kernel
theorem dX7_howManyStreams_81 : decode cX7_howManyStreams 81 = .ok (.aload_n 1, 1) := by decide +kernel
theorem dX7_howManyStreams_82 : decode cX7_howManyStreams 82 = .ok (.getfield 38, 3) := by decide +kernel
theorem dX7_howManyStreams_85 : decode cX7_howManyStreams 85 = .ok (.iload 5, 2) := by decide +kernel
theorem dX7_howManyStreams_87 : decode cX7_howManyStreams 87 = .ok (.iaload, 1) := by decide +kernel
theorem dX7_howManyStreams_88 : decode cX7_howManyStreams 88 = .ok (.aload_n 1, 1) := by decide +kernel
theorem dX7_howManyStreams_89 : decode cX7_howManyStreams 89 = .ok (.getfield 41, 3) := by decide +kernel
theorem dX7_howManyStreams_92 : decode cX7_howManyStreams 92 = .ok (.iload 6, 2) := by decide +kernel
theorem dX7_howManyStreams_94 : decode cX7_howManyStreams 94 = .ok (.iaload, 1) := by decide +kernel
theorem dX7_howManyStreams_95 : decode cX7_howManyStreams 95 = .ok (.if_icmp .ne 38, 3) := by decide +kernel
theorem dX7_howManyStreams_98 : decode cX7_howManyStreams 98 = .ok (.aload_n 0, 1) := by decide +kernel
theorem dX7_howManyStreams_99 : decode cX7_howManyStreams 99 = .ok (.iload 5, 2) := by decide +kernel
theorem dX7_howManyStreams_101 : decode cX7_howManyStreams 101 = .ok (.invokevirtual 54, 3) := by decide +kernel
theorem dX7_howManyStreams_104 : decode cX7_howManyStreams 104 = .ok (.istore 7, 2) := by decide +kernel
theorem dX7_howManyStreams_106 : decode cX7_howManyStreams 106 = .ok (.aload_n 0, 1) := by decide +kernel
theorem dX7_howManyStreams_107 : decode cX7_howManyStreams 107 = .ok (.iload 6, 2) := by decide +kernel
theorem dX7_howManyStreams_109 : decode cX7_howManyStreams 109 = .ok (.invokevirtual 54, 3) := by decide +kernel
theorem dX7_howManyStreams_112 : decode cX7_howManyStreams 112 = .ok (.istore 8, 2) := by decide +kernel
theorem dX7_howManyStreams_114 : decode cX7_howManyStreams 114 = .ok (.iload 7, 2) := by decide +kernel
theorem dX7_howManyStreams_116 : decode cX7_howManyStreams 116 = .ok (.iload 8, 2) := by decide +kernel
theorem dX7_howManyStreams_118 : decode cX7_howManyStreams 118 = .ok (.if_icmp .eq 15, 3) := by decide +kernel
theorem dX7_howManyStreams_121 : decode cX7_howManyStreams 121 = .ok (.aload_n 0, 1) := by decide +kernel
theorem dX7_howManyStreams_122 : decode cX7_howManyStreams 122 = .ok (.getfield 15, 3) := by decide +kernel
theorem dX7_howManyStreams_125 : decode cX7_howManyStreams 125 = .ok (.iload 8, 2) := by decide +kernel
theorem dX7_howManyStreams_127 : decode cX7_howManyStreams 127 = .ok (.iload 7, 2) := by decide +kernel
theorem dX7_howManyStreams_129 : decode cX7_howManyStreams 129 = .ok (.iastore, 1) := by decide +kernel
theorem dX7_howManyStreams_130 : decode cX7_howManyStreams 130 = .ok (.iinc 4 (-1), 3) := by decide +kernel
theorem dX7_howManyStreams_133 : decode cX7_howManyStreams 133 = .ok (.iinc 6 1, 3) := by decide +kernel
theorem dX7_howManyStreams_136 : decode cX7_howManyStreams 136 = .ok (.goto (-80), 3) := by decide +kernel
theorem dX7_howManyStreams_139 : decode cX7_howManyStreams 139 = .ok (.iinc 5 1, 3) := by decide +kernel
theorem dX7_howManyStreams_142 : decode cX7_howManyStreams 142 = .ok (.goto (-98), 3) := by decide +kernel
theorem dX7_howManyStreams_145 : decode cX7_howManyStreams 145 = .ok (.iload 4, 2) := by decide +kernel
theorem dX7_howManyStreams_147 : decode cX7_howManyStreams 147 = .ok (.ireturn, 1) := by decide +kernel
theorem dX7_leader_0 : decode cX7_leader 0 = .ok (.iload_n 1, 1) := by decide +kernel
theorem dX7_leader_1 : decode cX7_leader 1 = .ok (.istore_n 2, 1) := by decide +kernel
theorem dX7_leader_2 : decode cX7_leader 2 = .ok (.iconst 0, 1) := by decide +kernel
theorem dX7_leader_3 : decode cX7_leader 3 = .ok (.istore_n 3, 1) := by decide +kernel
theorem dX7_leader_4 : decode cX7_leader 4 = .ok (.iload_n 3, 1) := by decide +kernel
theorem dX7_leader_5 : decode cX7_leader 5 = .ok (.bipush 30, 2) := by decide +kernel
theorem dX7_leader_7 : decode cX7_leader 7 = .ok (.if_icmp .ge 26, 3) := by decide +kernel
theorem dX7_leader_10 : decode cX7_leader 10 = .ok (.aload_n 0, 1) := by decide +kernel
theorem dX7_leader_11 : decode cX7_leader 11 = .ok (.getfield 15, 3) := by decide +kernel
theorem dX7_leader_14 : decode cX7_leader 14 = .ok (.iload_n 2, 1) := by decide +kernel
theorem dX7_leader_15 : decode cX7_leader 15 = .ok (.iaload, 1) := by decide +kernel
theorem dX7_leader_16 : decode cX7_leader 16 = .ok (.iload_n 2, 1) := by decide +kernel
theorem dX7_leader_17 : decode cX7_leader 17 = .ok (.if_icmp .eq 16, 3) := by decide +kernel
theorem dX7_leader_20 : decode cX7_leader 20 = .ok (.aload_n 0, 1) := by decide +kernel
theorem dX7_leader_21 : decode cX7_leader 21 = .ok (.getfield 15, 3) := by decide +kernel
theorem dX7_leader_24 : decode cX7_leader 24 = .ok (.iload_n 2, 1) := by decide +kernel
theorem dX7_leader_25 : decode cX7_leader 25 = .ok (.iaload, 1) := by decide +kernel
theorem dX7_leader_26 : decode cX7_leader 26 = .ok (.istore_n 2, 1) := by decide +kernel
theorem dX7_leader_27 : decode cX7_leader 27 = .ok (.iinc 3 1, 3) := by decide +kernel
theorem dX7_leader_30 : decode cX7_leader 30 = .ok (.goto (-26), 3) := by decide +kernel
theorem dX7_leader_33 : decode cX7_leader 33 = .ok (.iload_n 2, 1) := by decide +kernel
theorem dX7_leader_34 : decode cX7_leader 34 = .ok (.ireturn, 1) := by decide +kernel
theorem dX7_howManyApart_0 : decode cX7_howManyApart 0 = .ok (.aload_n 0, 1) := by decide +kernel
theorem dX7_howManyApart_1 : decode cX7_howManyApart 1 = .ok (.getfield 15, 3) := by decide +kernel
theorem dX7_howManyApart_4 : decode cX7_howManyApart 4 = .ok (.iconst 0, 1) := by decide +kernel
theorem dX7_howManyApart_5 : decode cX7_howManyApart 5 = .ok (.invokestatic 21, 3) := by decide +kernel
theorem dX7_howManyApart_8 : decode cX7_howManyApart 8 = .ok (.iconst 0, 1) := by decide +kernel
theorem dX7_howManyApart_9 : decode cX7_howManyApart 9 = .ok (.istore 4, 2) := by decide +kernel
theorem dX7_howManyApart_11 : decode cX7_howManyApart 11 = .ok (.iconst 0, 1) := by decide +kernel
theorem dX7_howManyApart_12 : decode cX7_howManyApart 12 = .ok (.istore 5, 2) := by decide +kernel
theorem dX7_howManyApart_14 : decode cX7_howManyApart 14 = .ok (.iload 5, 2) := by decide +kernel
theorem dX7_howManyApart_16 : decode cX7_howManyApart 16 = .ok (.aload_n 1, 1) := by decide +kernel
theorem dX7_howManyApart_17 : decode cX7_howManyApart 17 = .ok (.getfield 27, 3) := by decide +kernel
theorem dX7_howManyApart_20 : decode cX7_howManyApart 20 = .ok (.if_icmp .ge 32, 3) := by decide +kernel
theorem dX7_howManyApart_23 : decode cX7_howManyApart 23 = .ok (.aload_n 0, 1) := by decide +kernel
theorem dX7_howManyApart_24 : decode cX7_howManyApart 24 = .ok (.aload_n 1, 1) := by decide +kernel
theorem dX7_howManyApart_25 : decode cX7_howManyApart 25 = .ok (.iload_n 2, 1) := by decide +kernel
theorem dX7_howManyApart_26 : decode cX7_howManyApart 26 = .ok (.iload_n 3, 1) := by decide +kernel
theorem dX7_howManyApart_27 : decode cX7_howManyApart 27 = .ok (.invokevirtual 58, 3) := by decide +kernel
theorem dX7_howManyApart_30 : decode cX7_howManyApart 30 = .ok (.ifCond .ne 6, 3) := by decide +kernel
theorem dX7_howManyApart_33 : decode cX7_howManyApart 33 = .ok (.goto 19, 3) := by decide +kernel
theorem dX7_howManyApart_36 : decode cX7_howManyApart 36 = .ok (.aload_n 0, 1) := by decide +kernel
theorem dX7_howManyApart_37 : decode cX7_howManyApart 37 = .ok (.aload_n 1, 1) := by decide +kernel
theorem dX7_howManyApart_38 : decode cX7_howManyApart 38 = .ok (.iload_n 2, 1) := by decide +kernel
theorem dX7_howManyApart_39 : decode cX7_howManyApart 39 = .ok (.iload_n 3, 1) := by decide +kernel
theorem dX7_howManyApart_40 : decode cX7_howManyApart 40 = .ok (.invokevirtual 62, 3) := by decide +kernel
theorem dX7_howManyApart_43 : decode cX7_howManyApart 43 = .ok (.iinc 4 1, 3) := by decide +kernel
theorem dX7_howManyApart_46 : decode cX7_howManyApart 46 = .ok (.iinc 5 1, 3) := by decide +kernel
theorem dX7_howManyApart_49 : decode cX7_howManyApart 49 = .ok (.goto (-35), 3) := by decide +kernel
theorem dX7_howManyApart_52 : decode cX7_howManyApart 52 = .ok (.iload 4, 2) := by decide +kernel
theorem dX7_howManyApart_54 : decode cX7_howManyApart 54 = .ok (.ireturn, 1) := by decide +kernel
theorem dX7_findWay_0 : decode cX7_findWay 0 = .ok (.iload_n 2, 1) := by decide +kernel
theorem dX7_findWay_1 : decode cX7_findWay 1 = .ok (.istore 4, 2) := by decide +kernel
theorem dX7_findWay_3 : decode cX7_findWay 3 = .ok (.iconst 0, 1) := by decide +kernel
theorem dX7_findWay_4 : decode cX7_findWay 4 = .ok (.istore 5, 2) := by decide +kernel
theorem dX7_findWay_6 : decode cX7_findWay 6 = .ok (.iload 5, 2) := by decide +kernel
theorem dX7_findWay_8 : decode cX7_findWay 8 = .ok (.aload_n 1, 1) := by decide +kernel
theorem dX7_findWay_9 : decode cX7_findWay 9 = .ok (.getfield 66, 3) := by decide +kernel
theorem dX7_findWay_12 : decode cX7_findWay 12 = .ok (.if_icmp .ge 148, 3) := by decide +kernel
theorem dX7_findWay_15 : decode cX7_findWay 15 = .ok (.iload 4, 2) := by decide +kernel
theorem dX7_findWay_17 : decode cX7_findWay 17 = .ok (.istore 6, 2) := by decide +kernel
theorem dX7_findWay_19 : decode cX7_findWay 19 = .ok (.iconst 0, 1) := by decide +kernel
theorem dX7_findWay_20 : decode cX7_findWay 20 = .ok (.istore 7, 2) := by decide +kernel
theorem dX7_findWay_22 : decode cX7_findWay 22 = .ok (.iload 7, 2) := by decide +kernel
theorem dX7_findWay_24 : decode cX7_findWay 24 = .ok (.aload_n 1, 1) := by decide +kernel
theorem dX7_findWay_25 : decode cX7_findWay 25 = .ok (.getfield 27, 3) := by decide +kernel
theorem dX7_findWay_28 : decode cX7_findWay 28 = .ok (.if_icmp .ge 106, 3) := by decide +kernel
theorem dX7_findWay_31 : decode cX7_findWay 31 = .ok (.aload_n 0, 1) := by decide +kernel
theorem dX7_findWay_32 : decode cX7_findWay 32 = .ok (.getfield 15, 3) := by decide +kernel
theorem dX7_findWay_35 : decode cX7_findWay 35 = .ok (.iload 7, 2) := by decide +kernel
theorem dX7_findWay_37 : decode cX7_findWay 37 = .ok (.iaload, 1) := by decide +kernel
theorem dX7_findWay_38 : decode cX7_findWay 38 = .ok (.ifCond .ne 13, 3) := by decide +kernel
theorem dX7_findWay_41 : decode cX7_findWay 41 = .ok (.aload_n 1, 1) := by decide +kernel
theorem dX7_findWay_42 : decode cX7_findWay 42 = .ok (.getfield 41, 3) := by decide +kernel
theorem dX7_findWay_45 : decode cX7_findWay 45 = .ok (.iload 7, 2) := by decide +kernel
theorem dX7_findWay_47 : decode cX7_findWay 47 = .ok (.iaload, 1) := by decide +kernel
theorem dX7_findWay_48 : decode cX7_findWay 48 = .ok (.goto 10, 3) := by decide +kernel
theorem dX7_findWay_51 : decode cX7_findWay 51 = .ok (.aload_n 1, 1) := by decide +kernel
theorem dX7_findWay_52 : decode cX7_findWay 52 = .ok (.getfield 38, 3) := by decide +kernel
theorem dX7_findWay_55 : decode cX7_findWay 55 = .ok (.iload 7, 2) := by decide +kernel
theorem dX7_findWay_57 : decode cX7_findWay 57 = .ok (.iaload, 1) := by decide +kernel
theorem dX7_findWay_58 : decode cX7_findWay 58 = .ok (.istore 8, 2) := by decide +kernel
theorem dX7_findWay_60 : decode cX7_findWay 60 = .ok (.aload_n 0, 1) := by decide +kernel
theorem dX7_findWay_61 : decode cX7_findWay 61 = .ok (.getfield 15, 3) := by decide +kernel
theorem dX7_findWay_64 : decode cX7_findWay 64 = .ok (.iload 7, 2) := by decide +kernel
theorem dX7_findWay_66 : decode cX7_findWay 66 = .ok (.iaload, 1) := by decide +kernel
theorem dX7_findWay_67 : decode cX7_findWay 67 = .ok (.ifCond .ne 13, 3) := by decide +kernel
theorem dX7_findWay_70 : decode cX7_findWay 70 = .ok (.aload_n 1, 1) := by decide +kernel
theorem dX7_findWay_71 : decode cX7_findWay 71 = .ok (.getfield 38, 3) := by decide +kernel
theorem dX7_findWay_74 : decode cX7_findWay 74 = .ok (.iload 7, 2) := by decide +kernel
theorem dX7_findWay_76 : decode cX7_findWay 76 = .ok (.iaload, 1) := by decide +kernel
theorem dX7_findWay_77 : decode cX7_findWay 77 = .ok (.goto 10, 3) := by decide +kernel
theorem dX7_findWay_80 : decode cX7_findWay 80 = .ok (.aload_n 1, 1) := by decide +kernel
theorem dX7_findWay_81 : decode cX7_findWay 81 = .ok (.getfield 41, 3) := by decide +kernel
theorem dX7_findWay_84 : decode cX7_findWay 84 = .ok (.iload 7, 2) := by decide +kernel
theorem dX7_findWay_86 : decode cX7_findWay 86 = .ok (.iaload, 1) := by decide +kernel
theorem dX7_findWay_87 : decode cX7_findWay 87 = .ok (.istore 9, 2) := by decide +kernel
theorem dX7_findWay_89 : decode cX7_findWay 89 = .ok (.iload 4, 2) := by decide +kernel
theorem dX7_findWay_91 : decode cX7_findWay 91 = .ok (.iload 8, 2) := by decide +kernel
theorem dX7_findWay_93 : decode cX7_findWay 93 = .ok (.ishr, 1) := by decide +kernel
theorem dX7_findWay_94 : decode cX7_findWay 94 = .ok (.iconst 1, 1) := by decide +kernel
theorem dX7_findWay_95 : decode cX7_findWay 95 = .ok (.iand, 1) := by decide +kernel
theorem dX7_findWay_96 : decode cX7_findWay 96 = .ok (.iconst 1, 1) := by decide +kernel
theorem dX7_findWay_97 : decode cX7_findWay 97 = .ok (.if_icmp .ne 31, 3) := by decide +kernel
theorem dX7_findWay_100 : decode cX7_findWay 100 = .ok (.iload 4, 2) := by decide +kernel
theorem dX7_findWay_102 : decode cX7_findWay 102 = .ok (.iload 9, 2) := by decide +kernel
theorem dX7_findWay_104 : decode cX7_findWay 104 = .ok (.ishr, 1) := by decide +kernel
theorem dX7_findWay_105 : decode cX7_findWay 105 = .ok (.iconst 1, 1) := by decide +kernel
theorem dX7_findWay_106 : decode cX7_findWay 106 = .ok (.iand, 1) := by decide +kernel
theorem dX7_findWay_107 : decode cX7_findWay 107 = .ok (.ifCond .ne 21, 3) := by decide +kernel
theorem dX7_findWay_110 : decode cX7_findWay 110 = .ok (.iload 4, 2) := by decide +kernel
theorem dX7_findWay_112 : decode cX7_findWay 112 = .ok (.iconst 1, 1) := by decide +kernel
theorem dX7_findWay_113 : decode cX7_findWay 113 = .ok (.iload 9, 2) := by decide +kernel
theorem dX7_findWay_115 : decode cX7_findWay 115 = .ok (.ishl, 1) := by decide +kernel
theorem dX7_findWay_116 : decode cX7_findWay 116 = .ok (.ior, 1) := by decide +kernel
theorem dX7_findWay_117 : decode cX7_findWay 117 = .ok (.istore 4, 2) := by decide +kernel
theorem dX7_findWay_119 : decode cX7_findWay 119 = .ok (.aload_n 0, 1) := by decide +kernel
theorem dX7_findWay_120 : decode cX7_findWay 120 = .ok (.getfield 9, 3) := by decide +kernel
theorem dX7_findWay_123 : decode cX7_findWay 123 = .ok (.iload 9, 2) := by decide +kernel
theorem dX7_findWay_125 : decode cX7_findWay 125 = .ok (.iload 7, 2) := by decide +kernel
theorem dX7_findWay_127 : decode cX7_findWay 127 = .ok (.iastore, 1) := by decide +kernel
theorem dX7_findWay_128 : decode cX7_findWay 128 = .ok (.iinc 7 1, 3) := by decide +kernel
theorem dX7_findWay_131 : decode cX7_findWay 131 = .ok (.goto (-109), 3) := by decide +kernel
theorem dX7_findWay_134 : decode cX7_findWay 134 = .ok (.iload 4, 2) := by decide +kernel
theorem dX7_findWay_136 : decode cX7_findWay 136 = .ok (.iload 6, 2) := by decide +kernel
theorem dX7_findWay_138 : decode cX7_findWay 138 = .ok (.if_icmp .eq 22, 3) := by decide +kernel
theorem dX7_findWay_141 : decode cX7_findWay 141 = .ok (.iload 4, 2) := by decide +kernel
theorem dX7_findWay_143 : decode cX7_findWay 143 = .ok (.iload_n 3, 1) := by decide +kernel
theorem dX7_findWay_144 : decode cX7_findWay 144 = .ok (.ishr, 1) := by decide +kernel
theorem dX7_findWay_145 : decode cX7_findWay 145 = .ok (.iconst 1, 1) := by decide +kernel
theorem dX7_findWay_146 : decode cX7_findWay 146 = .ok (.iand, 1) := by decide +kernel
theorem dX7_findWay_147 : decode cX7_findWay 147 = .ok (.iconst 1, 1) := by decide +kernel
theorem dX7_findWay_148 : decode cX7_findWay 148 = .ok (.if_icmp .ne 6, 3) := by decide +kernel
theorem dX7_findWay_151 : decode cX7_findWay 151 = .ok (.goto 9, 3) := by decide +kernel
theorem dX7_findWay_154 : decode cX7_findWay 154 = .ok (.iinc 5 1, 3) := by decide +kernel
theorem dX7_findWay_157 : decode cX7_findWay 157 = .ok (.goto (-151), 3) := by decide +kernel
theorem dX7_findWay_160 : decode cX7_findWay 160 = .ok (.iload 4, 2) := by decide +kernel
theorem dX7_findWay_162 : decode cX7_findWay 162 = .ok (.iload_n 3, 1) := by decide +kernel
theorem dX7_findWay_163 : decode cX7_findWay 163 = .ok (.ishr, 1) := by decide +kernel
theorem dX7_findWay_164 : decode cX7_findWay 164 = .ok (.iconst 1, 1) := by decide +kernel
theorem dX7_findWay_165 : decode cX7_findWay 165 = .ok (.iand, 1) := by decide +kernel
theorem dX7_findWay_166 : decode cX7_findWay 166 = .ok (.iconst 1, 1) := by decide +kernel
theorem dX7_findWay_167 : decode cX7_findWay 167 = .ok (.if_icmp .ne 7, 3) := by decide +kernel
theorem dX7_findWay_170 : decode cX7_findWay 170 = .ok (.iconst 1, 1) := by decide +kernel
theorem dX7_findWay_171 : decode cX7_findWay 171 = .ok (.goto 4, 3) := by decide +kernel
theorem dX7_findWay_174 : decode cX7_findWay 174 = .ok (.iconst 0, 1) := by decide +kernel
theorem dX7_findWay_175 : decode cX7_findWay 175 = .ok (.ireturn, 1) := by decide +kernel
theorem dX7_useWay_0 : decode cX7_useWay 0 = .ok (.iload_n 3, 1) := by decide +kernel
theorem dX7_useWay_1 : decode cX7_useWay 1 = .ok (.istore 4, 2) := by decide +kernel
theorem dX7_useWay_3 : decode cX7_useWay 3 = .ok (.iconst 0, 1) := by decide +kernel
theorem dX7_useWay_4 : decode cX7_useWay 4 = .ok (.istore 5, 2) := by decide +kernel
theorem dX7_useWay_6 : decode cX7_useWay 6 = .ok (.iload 5, 2) := by decide +kernel
theorem dX7_useWay_8 : decode cX7_useWay 8 = .ok (.aload_n 1, 1) := by decide +kernel
theorem dX7_useWay_9 : decode cX7_useWay 9 = .ok (.getfield 66, 3) := by decide +kernel
theorem dX7_useWay_12 : decode cX7_useWay 12 = .ok (.if_icmp .ge 72, 3) := by decide +kernel
theorem dX7_useWay_15 : decode cX7_useWay 15 = .ok (.iload_n 2, 1) := by decide +kernel
theorem dX7_useWay_16 : decode cX7_useWay 16 = .ok (.iload 4, 2) := by decide +kernel
theorem dX7_useWay_18 : decode cX7_useWay 18 = .ok (.ishr, 1) := by decide +kernel
theorem dX7_useWay_19 : decode cX7_useWay 19 = .ok (.iconst 1, 1) := by decide +kernel
theorem dX7_useWay_20 : decode cX7_useWay 20 = .ok (.iand, 1) := by decide +kernel
theorem dX7_useWay_21 : decode cX7_useWay 21 = .ok (.ifCond .ne 63, 3) := by decide +kernel
theorem dX7_useWay_24 : decode cX7_useWay 24 = .ok (.aload_n 0, 1) := by decide +kernel
theorem dX7_useWay_25 : decode cX7_useWay 25 = .ok (.getfield 9, 3) := by decide +kernel
theorem dX7_useWay_28 : decode cX7_useWay 28 = .ok (.iload 4, 2) := by decide +kernel
theorem dX7_useWay_30 : decode cX7_useWay 30 = .ok (.iaload, 1) := by decide +kernel
theorem dX7_useWay_31 : decode cX7_useWay 31 = .ok (.istore 6, 2) := by decide +kernel
theorem dX7_useWay_33 : decode cX7_useWay 33 = .ok (.aload_n 0, 1) := by decide +kernel
theorem dX7_useWay_34 : decode cX7_useWay 34 = .ok (.getfield 15, 3) := by decide +kernel
theorem dX7_useWay_37 : decode cX7_useWay 37 = .ok (.iload 6, 2) := by decide +kernel
theorem dX7_useWay_39 : decode cX7_useWay 39 = .ok (.iaload, 1) := by decide +kernel
theorem dX7_useWay_40 : decode cX7_useWay 40 = .ok (.ifCond .ne 13, 3) := by decide +kernel
theorem dX7_useWay_43 : decode cX7_useWay 43 = .ok (.aload_n 1, 1) := by decide +kernel
theorem dX7_useWay_44 : decode cX7_useWay 44 = .ok (.getfield 41, 3) := by decide +kernel
theorem dX7_useWay_47 : decode cX7_useWay 47 = .ok (.iload 6, 2) := by decide +kernel
theorem dX7_useWay_49 : decode cX7_useWay 49 = .ok (.iaload, 1) := by decide +kernel
theorem dX7_useWay_50 : decode cX7_useWay 50 = .ok (.goto 10, 3) := by decide +kernel
theorem dX7_useWay_53 : decode cX7_useWay 53 = .ok (.aload_n 1, 1) := by decide +kernel
theorem dX7_useWay_54 : decode cX7_useWay 54 = .ok (.getfield 38, 3) := by decide +kernel
theorem dX7_useWay_57 : decode cX7_useWay 57 = .ok (.iload 6, 2) := by decide +kernel
theorem dX7_useWay_59 : decode cX7_useWay 59 = .ok (.iaload, 1) := by decide +kernel
theorem dX7_useWay_60 : decode cX7_useWay 60 = .ok (.istore 4, 2) := by decide +kernel
theorem dX7_useWay_62 : decode cX7_useWay 62 = .ok (.aload_n 0, 1) := by decide +kernel
theorem dX7_useWay_63 : decode cX7_useWay 63 = .ok (.getfield 15, 3) := by decide +kernel
theorem dX7_useWay_66 : decode cX7_useWay 66 = .ok (.iload 6, 2) := by decide +kernel
theorem dX7_useWay_68 : decode cX7_useWay 68 = .ok (.iconst 1, 1) := by decide +kernel
theorem dX7_useWay_69 : decode cX7_useWay 69 = .ok (.aload_n 0, 1) := by decide +kernel
theorem dX7_useWay_70 : decode cX7_useWay 70 = .ok (.getfield 15, 3) := by decide +kernel
theorem dX7_useWay_73 : decode cX7_useWay 73 = .ok (.iload 6, 2) := by decide +kernel
theorem dX7_useWay_75 : decode cX7_useWay 75 = .ok (.iaload, 1) := by decide +kernel
theorem dX7_useWay_76 : decode cX7_useWay 76 = .ok (.isub, 1) := by decide +kernel
theorem dX7_useWay_77 : decode cX7_useWay 77 = .ok (.iastore, 1) := by decide +kernel
theorem dX7_useWay_78 : decode cX7_useWay 78 = .ok (.iinc 5 1, 3) := by decide +kernel
theorem dX7_useWay_81 : decode cX7_useWay 81 = .ok (.goto (-75), 3) := by decide +kernel
theorem dX7_useWay_84 : decode cX7_useWay 84 = .ok (.return_, 1) := by decide +kernel
theorem dX7_sendWaves_0 : decode cX7_sendWaves 0 = .ok (.aload_n 0, 1) := by decide +kernel
theorem dX7_sendWaves_1 : decode cX7_sendWaves 1 = .ok (.iconst 0, 1) := by decide +kernel
theorem dX7_sendWaves_2 : decode cX7_sendWaves 2 = .ok (.putfield 69, 3) := by decide +kernel
theorem dX7_sendWaves_5 : decode cX7_sendWaves 5 = .ok (.iconst 0, 1) := by decide +kernel
theorem dX7_sendWaves_6 : decode cX7_sendWaves 6 = .ok (.istore 5, 2) := by decide +kernel
theorem dX7_sendWaves_8 : decode cX7_sendWaves 8 = .ok (.iload 5, 2) := by decide +kernel
theorem dX7_sendWaves_10 : decode cX7_sendWaves 10 = .ok (.aload_n 1, 1) := by decide +kernel
theorem dX7_sendWaves_11 : decode cX7_sendWaves 11 = .ok (.getfield 66, 3) := by decide +kernel
theorem dX7_sendWaves_14 : decode cX7_sendWaves 14 = .ok (.if_icmp .ge 61, 3) := by decide +kernel
theorem dX7_sendWaves_17 : decode cX7_sendWaves 17 = .ok (.iload_n 2, 1) := by decide +kernel
theorem dX7_sendWaves_18 : decode cX7_sendWaves 18 = .ok (.iload 5, 2) := by decide +kernel
theorem dX7_sendWaves_20 : decode cX7_sendWaves 20 = .ok (.ishr, 1) := by decide +kernel
theorem dX7_sendWaves_21 : decode cX7_sendWaves 21 = .ok (.iconst 1, 1) := by decide +kernel
theorem dX7_sendWaves_22 : decode cX7_sendWaves 22 = .ok (.iand, 1) := by decide +kernel
theorem dX7_sendWaves_23 : decode cX7_sendWaves 23 = .ok (.iconst 1, 1) := by decide +kernel
theorem dX7_sendWaves_24 : decode cX7_sendWaves 24 = .ok (.if_icmp .ne 15, 3) := by decide +kernel
theorem dX7_sendWaves_27 : decode cX7_sendWaves 27 = .ok (.aload_n 1, 1) := by decide +kernel
theorem dX7_sendWaves_28 : decode cX7_sendWaves 28 = .ok (.aload_n 3, 1) := by decide +kernel
theorem dX7_sendWaves_29 : decode cX7_sendWaves 29 = .ok (.iload 5, 2) := by decide +kernel
theorem dX7_sendWaves_31 : decode cX7_sendWaves 31 = .ok (.iload 4, 2) := by decide +kernel
theorem dX7_sendWaves_33 : decode cX7_sendWaves 33 = .ok (.invokestatic 72, 3) := by decide +kernel
theorem dX7_sendWaves_36 : decode cX7_sendWaves 36 = .ok (.goto 4, 3) := by decide +kernel
theorem dX7_sendWaves_39 : decode cX7_sendWaves 39 = .ok (.iconst (-1), 1) := by decide +kernel
theorem dX7_sendWaves_40 : decode cX7_sendWaves 40 = .ok (.istore 6, 2) := by decide +kernel
theorem dX7_sendWaves_42 : decode cX7_sendWaves 42 = .ok (.iload 6, 2) := by decide +kernel
theorem dX7_sendWaves_44 : decode cX7_sendWaves 44 = .ok (.iconst (-1), 1) := by decide +kernel
theorem dX7_sendWaves_45 : decode cX7_sendWaves 45 = .ok (.if_icmp .eq 24, 3) := by decide +kernel
theorem dX7_sendWaves_48 : decode cX7_sendWaves 48 = .ok (.aload_n 0, 1) := by decide +kernel
theorem dX7_sendWaves_49 : decode cX7_sendWaves 49 = .ok (.getfield 18, 3) := by decide +kernel
theorem dX7_sendWaves_52 : decode cX7_sendWaves 52 = .ok (.aload_n 0, 1) := by decide +kernel
theorem dX7_sendWaves_53 : decode cX7_sendWaves 53 = .ok (.getfield 69, 3) := by decide +kernel
theorem dX7_sendWaves_56 : decode cX7_sendWaves 56 = .ok (.iload 6, 2) := by decide +kernel
theorem dX7_sendWaves_58 : decode cX7_sendWaves 58 = .ok (.iastore, 1) := by decide +kernel
theorem dX7_sendWaves_59 : decode cX7_sendWaves 59 = .ok (.aload_n 0, 1) := by decide +kernel
theorem dX7_sendWaves_60 : decode cX7_sendWaves 60 = .ok (.dup, 1) := by decide +kernel
theorem dX7_sendWaves_61 : decode cX7_sendWaves 61 = .ok (.getfield 69, 3) := by decide +kernel
theorem dX7_sendWaves_64 : decode cX7_sendWaves 64 = .ok (.iconst 1, 1) := by decide +kernel
theorem dX7_sendWaves_65 : decode cX7_sendWaves 65 = .ok (.iadd, 1) := by decide +kernel
theorem dX7_sendWaves_66 : decode cX7_sendWaves 66 = .ok (.putfield 69, 3) := by decide +kernel
theorem dX7_sendWaves_69 : decode cX7_sendWaves 69 = .ok (.iinc 5 1, 3) := by decide +kernel
theorem dX7_sendWaves_72 : decode cX7_sendWaves 72 = .ok (.goto (-64), 3) := by decide +kernel
theorem dX7_sendWaves_75 : decode cX7_sendWaves 75 = .ok (.return_, 1) := by decide +kernel
theorem dX7_hourAt_0 : decode cX7_hourAt 0 = .ok (.iload_n 2, 1) := by decide +kernel
theorem dX7_hourAt_1 : decode cX7_hourAt 1 = .ok (.istore 4, 2) := by decide +kernel
theorem dX7_hourAt_3 : decode cX7_hourAt 3 = .ok (.iconst 0, 1) := by decide +kernel
theorem dX7_hourAt_4 : decode cX7_hourAt 4 = .ok (.istore 5, 2) := by decide +kernel
theorem dX7_hourAt_6 : decode cX7_hourAt 6 = .ok (.iconst 0, 1) := by decide +kernel
theorem dX7_hourAt_7 : decode cX7_hourAt 7 = .ok (.istore 6, 2) := by decide +kernel
theorem dX7_hourAt_9 : decode cX7_hourAt 9 = .ok (.iload 6, 2) := by decide +kernel
theorem dX7_hourAt_11 : decode cX7_hourAt 11 = .ok (.aload_n 0, 1) := by decide +kernel
theorem dX7_hourAt_12 : decode cX7_hourAt 12 = .ok (.getfield 66, 3) := by decide +kernel
theorem dX7_hourAt_15 : decode cX7_hourAt 15 = .ok (.if_icmp .ge 50, 3) := by decide +kernel
theorem dX7_hourAt_18 : decode cX7_hourAt 18 = .ok (.iload 4, 2) := by decide +kernel
theorem dX7_hourAt_20 : decode cX7_hourAt 20 = .ok (.iload_n 3, 1) := by decide +kernel
theorem dX7_hourAt_21 : decode cX7_hourAt 21 = .ok (.if_icmp .eq 44, 3) := by decide +kernel
theorem dX7_hourAt_24 : decode cX7_hourAt 24 = .ok (.aload_n 1, 1) := by decide +kernel
theorem dX7_hourAt_25 : decode cX7_hourAt 25 = .ok (.iload 4, 2) := by decide +kernel
theorem dX7_hourAt_27 : decode cX7_hourAt 27 = .ok (.iaload, 1) := by decide +kernel
theorem dX7_hourAt_28 : decode cX7_hourAt 28 = .ok (.istore 7, 2) := by decide +kernel
theorem dX7_hourAt_30 : decode cX7_hourAt 30 = .ok (.iload 7, 2) := by decide +kernel
theorem dX7_hourAt_32 : decode cX7_hourAt 32 = .ok (.iconst (-1), 1) := by decide +kernel
theorem dX7_hourAt_33 : decode cX7_hourAt 33 = .ok (.if_icmp .ne 5, 3) := by decide +kernel
theorem dX7_hourAt_36 : decode cX7_hourAt 36 = .ok (.iconst (-1), 1) := by decide +kernel
theorem dX7_hourAt_37 : decode cX7_hourAt 37 = .ok (.ireturn, 1) := by decide +kernel
theorem dX7_hourAt_38 : decode cX7_hourAt 38 = .ok (.iload 5, 2) := by decide +kernel
theorem dX7_hourAt_40 : decode cX7_hourAt 40 = .ok (.aload_n 0, 1) := by decide +kernel
theorem dX7_hourAt_41 : decode cX7_hourAt 41 = .ok (.getfield 51, 3) := by decide +kernel
theorem dX7_hourAt_44 : decode cX7_hourAt 44 = .ok (.iload 7, 2) := by decide +kernel
theorem dX7_hourAt_46 : decode cX7_hourAt 46 = .ok (.iaload, 1) := by decide +kernel
theorem dX7_hourAt_47 : decode cX7_hourAt 47 = .ok (.iadd, 1) := by decide +kernel
theorem dX7_hourAt_48 : decode cX7_hourAt 48 = .ok (.istore 5, 2) := by decide +kernel
theorem dX7_hourAt_50 : decode cX7_hourAt 50 = .ok (.aload_n 0, 1) := by decide +kernel
theorem dX7_hourAt_51 : decode cX7_hourAt 51 = .ok (.getfield 38, 3) := by decide +kernel
theorem dX7_hourAt_54 : decode cX7_hourAt 54 = .ok (.iload 7, 2) := by decide +kernel
theorem dX7_hourAt_56 : decode cX7_hourAt 56 = .ok (.iaload, 1) := by decide +kernel
theorem dX7_hourAt_57 : decode cX7_hourAt 57 = .ok (.istore 4, 2) := by decide +kernel
theorem dX7_hourAt_59 : decode cX7_hourAt 59 = .ok (.iinc 6 1, 3) := by decide +kernel
theorem dX7_hourAt_62 : decode cX7_hourAt 62 = .ok (.goto (-53), 3) := by decide +kernel
theorem dX7_hourAt_65 : decode cX7_hourAt 65 = .ok (.iload 4, 2) := by decide +kernel
theorem dX7_hourAt_67 : decode cX7_hourAt 67 = .ok (.iload_n 3, 1) := by decide +kernel
theorem dX7_hourAt_68 : decode cX7_hourAt 68 = .ok (.if_icmp .ne 8, 3) := by decide +kernel
theorem dX7_hourAt_71 : decode cX7_hourAt 71 = .ok (.iload 5, 2) := by decide +kernel
theorem dX7_hourAt_73 : decode cX7_hourAt 73 = .ok (.goto 4, 3) := by decide +kernel
theorem dX7_hourAt_76 : decode cX7_hourAt 76 = .ok (.iconst (-1), 1) := by decide +kernel
theorem dX7_hourAt_77 : decode cX7_hourAt 77 = .ok (.ireturn, 1) := by decide +kernel
theorem dX7_comingAt_0 : decode cX7_comingAt 0 = .ok (.iconst 0, 1) := by decide +kernel
theorem dX7_comingAt_1 : decode cX7_comingAt 1 = .ok (.istore_n 2, 1) := by decide +kernel
theorem dX7_comingAt_2 : decode cX7_comingAt 2 = .ok (.iconst 0, 1) := by decide +kernel
theorem dX7_comingAt_3 : decode cX7_comingAt 3 = .ok (.istore_n 3, 1) := by decide +kernel
theorem dX7_comingAt_4 : decode cX7_comingAt 4 = .ok (.iload_n 3, 1) := by decide +kernel
theorem dX7_comingAt_5 : decode cX7_comingAt 5 = .ok (.aload_n 0, 1) := by decide +kernel
theorem dX7_comingAt_6 : decode cX7_comingAt 6 = .ok (.getfield 69, 3) := by decide +kernel
theorem dX7_comingAt_9 : decode cX7_comingAt 9 = .ok (.if_icmp .ge 22, 3) := by decide +kernel
theorem dX7_comingAt_12 : decode cX7_comingAt 12 = .ok (.aload_n 0, 1) := by decide +kernel
theorem dX7_comingAt_13 : decode cX7_comingAt 13 = .ok (.getfield 18, 3) := by decide +kernel
theorem dX7_comingAt_16 : decode cX7_comingAt 16 = .ok (.iload_n 3, 1) := by decide +kernel
theorem dX7_comingAt_17 : decode cX7_comingAt 17 = .ok (.iaload, 1) := by decide +kernel
theorem dX7_comingAt_18 : decode cX7_comingAt 18 = .ok (.iload_n 1, 1) := by decide +kernel
theorem dX7_comingAt_19 : decode cX7_comingAt 19 = .ok (.if_icmp .ne 6, 3) := by decide +kernel
theorem dX7_comingAt_22 : decode cX7_comingAt 22 = .ok (.iinc 2 1, 3) := by decide +kernel
theorem dX7_comingAt_25 : decode cX7_comingAt 25 = .ok (.iinc 3 1, 3) := by decide +kernel
theorem dX7_comingAt_28 : decode cX7_comingAt 28 = .ok (.goto (-24), 3) := by decide +kernel
theorem dX7_comingAt_31 : decode cX7_comingAt 31 = .ok (.iload_n 2, 1) := by decide +kernel
theorem dX7_comingAt_32 : decode cX7_comingAt 32 = .ok (.ireturn, 1) := by decide +kernel
theorem dX7_mostAtOnce_0 : decode cX7_mostAtOnce 0 = .ok (.aload_n 0, 1) := by decide +kernel
theorem dX7_mostAtOnce_1 : decode cX7_mostAtOnce 1 = .ok (.getfield 69, 3) := by decide +kernel
theorem dX7_mostAtOnce_4 : decode cX7_mostAtOnce 4 = .ok (.ifCond .ne 7, 3) := by decide +kernel
theorem dX7_mostAtOnce_7 : decode cX7_mostAtOnce 7 = .ok (.iconst (-1), 1) := by decide +kernel
theorem dX7_mostAtOnce_8 : decode cX7_mostAtOnce 8 = .ok (.goto 11, 3) := by decide +kernel
theorem dX7_mostAtOnce_11 : decode cX7_mostAtOnce 11 = .ok (.aload_n 0, 1) := by decide +kernel
theorem dX7_mostAtOnce_12 : decode cX7_mostAtOnce 12 = .ok (.aload_n 0, 1) := by decide +kernel
theorem dX7_mostAtOnce_13 : decode cX7_mostAtOnce 13 = .ok (.invokevirtual 76, 3) := by decide +kernel
theorem dX7_mostAtOnce_16 : decode cX7_mostAtOnce 16 = .ok (.invokevirtual 80, 3) := by decide +kernel
theorem dX7_mostAtOnce_19 : decode cX7_mostAtOnce 19 = .ok (.ireturn, 1) := by decide +kernel
theorem dX7_hourOfMost_0 : decode cX7_hourOfMost 0 = .ok (.iconst (-1), 1) := by decide +kernel
theorem dX7_hourOfMost_1 : decode cX7_hourOfMost 1 = .ok (.istore_n 1, 1) := by decide +kernel
theorem dX7_hourOfMost_2 : decode cX7_hourOfMost 2 = .ok (.iconst 0, 1) := by decide +kernel
theorem dX7_hourOfMost_3 : decode cX7_hourOfMost 3 = .ok (.istore_n 2, 1) := by decide +kernel
theorem dX7_hourOfMost_4 : decode cX7_hourOfMost 4 = .ok (.iconst 0, 1) := by decide +kernel
theorem dX7_hourOfMost_5 : decode cX7_hourOfMost 5 = .ok (.istore_n 3, 1) := by decide +kernel
theorem dX7_hourOfMost_6 : decode cX7_hourOfMost 6 = .ok (.iload_n 3, 1) := by decide +kernel
theorem dX7_hourOfMost_7 : decode cX7_hourOfMost 7 = .ok (.aload_n 0, 1) := by decide +kernel
theorem dX7_hourOfMost_8 : decode cX7_hourOfMost 8 = .ok (.getfield 69, 3) := by decide +kernel
theorem dX7_hourOfMost_11 : decode cX7_hourOfMost 11 = .ok (.if_icmp .ge 53, 3) := by decide +kernel
theorem dX7_hourOfMost_14 : decode cX7_hourOfMost 14 = .ok (.aload_n 0, 1) := by decide +kernel
theorem dX7_hourOfMost_15 : decode cX7_hourOfMost 15 = .ok (.aload_n 0, 1) := by decide +kernel
theorem dX7_hourOfMost_16 : decode cX7_hourOfMost 16 = .ok (.getfield 18, 3) := by decide +kernel
theorem dX7_hourOfMost_19 : decode cX7_hourOfMost 19 = .ok (.iload_n 3, 1) := by decide +kernel
theorem dX7_hourOfMost_20 : decode cX7_hourOfMost 20 = .ok (.iaload, 1) := by decide +kernel
theorem dX7_hourOfMost_21 : decode cX7_hourOfMost 21 = .ok (.invokevirtual 80, 3) := by decide +kernel
theorem dX7_hourOfMost_24 : decode cX7_hourOfMost 24 = .ok (.istore 4, 2) := by decide +kernel
theorem dX7_hourOfMost_26 : decode cX7_hourOfMost 26 = .ok (.iload 4, 2) := by decide +kernel
theorem dX7_hourOfMost_28 : decode cX7_hourOfMost 28 = .ok (.iload_n 2, 1) := by decide +kernel
theorem dX7_hourOfMost_29 : decode cX7_hourOfMost 29 = .ok (.if_icmp .gt 19, 3) := by decide +kernel
theorem dX7_hourOfMost_32 : decode cX7_hourOfMost 32 = .ok (.iload 4, 2) := by decide +kernel
theorem dX7_hourOfMost_34 : decode cX7_hourOfMost 34 = .ok (.iload_n 2, 1) := by decide +kernel
theorem dX7_hourOfMost_35 : decode cX7_hourOfMost 35 = .ok (.if_icmp .ne 23, 3) := by decide +kernel
theorem dX7_hourOfMost_38 : decode cX7_hourOfMost 38 = .ok (.aload_n 0, 1) := by decide +kernel
theorem dX7_hourOfMost_39 : decode cX7_hourOfMost 39 = .ok (.getfield 18, 3) := by decide +kernel
theorem dX7_hourOfMost_42 : decode cX7_hourOfMost 42 = .ok (.iload_n 3, 1) := by decide +kernel
theorem dX7_hourOfMost_43 : decode cX7_hourOfMost 43 = .ok (.iaload, 1) := by decide +kernel
theorem dX7_hourOfMost_44 : decode cX7_hourOfMost 44 = .ok (.iload_n 1, 1) := by decide +kernel
theorem dX7_hourOfMost_45 : decode cX7_hourOfMost 45 = .ok (.if_icmp .ge 13, 3) := by decide +kernel
theorem dX7_hourOfMost_48 : decode cX7_hourOfMost 48 = .ok (.iload 4, 2) := by decide +kernel
theorem dX7_hourOfMost_50 : decode cX7_hourOfMost 50 = .ok (.istore_n 2, 1) := by decide +kernel
theorem dX7_hourOfMost_51 : decode cX7_hourOfMost 51 = .ok (.aload_n 0, 1) := by decide +kernel
theorem dX7_hourOfMost_52 : decode cX7_hourOfMost 52 = .ok (.getfield 18, 3) := by decide +kernel
theorem dX7_hourOfMost_55 : decode cX7_hourOfMost 55 = .ok (.iload_n 3, 1) := by decide +kernel
theorem dX7_hourOfMost_56 : decode cX7_hourOfMost 56 = .ok (.iaload, 1) := by decide +kernel
theorem dX7_hourOfMost_57 : decode cX7_hourOfMost 57 = .ok (.istore_n 1, 1) := by decide +kernel
theorem dX7_hourOfMost_58 : decode cX7_hourOfMost 58 = .ok (.iinc 3 1, 3) := by decide +kernel
theorem dX7_hourOfMost_61 : decode cX7_hourOfMost 61 = .ok (.goto (-55), 3) := by decide +kernel
theorem dX7_hourOfMost_64 : decode cX7_hourOfMost 64 = .ok (.iload_n 1, 1) := by decide +kernel
theorem dX7_hourOfMost_65 : decode cX7_hourOfMost 65 = .ok (.ireturn, 1) := by decide +kernel
theorem dX7_lastHour_0 : decode cX7_lastHour 0 = .ok (.iconst (-1), 1) := by decide +kernel
theorem dX7_lastHour_1 : decode cX7_lastHour 1 = .ok (.istore_n 1, 1) := by decide +kernel
theorem dX7_lastHour_2 : decode cX7_lastHour 2 = .ok (.iconst 0, 1) := by decide +kernel
theorem dX7_lastHour_3 : decode cX7_lastHour 3 = .ok (.istore_n 2, 1) := by decide +kernel
theorem dX7_lastHour_4 : decode cX7_lastHour 4 = .ok (.iload_n 2, 1) := by decide +kernel
theorem dX7_lastHour_5 : decode cX7_lastHour 5 = .ok (.aload_n 0, 1) := by decide +kernel
theorem dX7_lastHour_6 : decode cX7_lastHour 6 = .ok (.getfield 69, 3) := by decide +kernel
theorem dX7_lastHour_9 : decode cX7_lastHour 9 = .ok (.if_icmp .ge 20, 3) := by decide +kernel
theorem dX7_lastHour_12 : decode cX7_lastHour 12 = .ok (.iload_n 1, 1) := by decide +kernel
theorem dX7_lastHour_13 : decode cX7_lastHour 13 = .ok (.aload_n 0, 1) := by decide +kernel
theorem dX7_lastHour_14 : decode cX7_lastHour 14 = .ok (.getfield 18, 3) := by decide +kernel
theorem dX7_lastHour_17 : decode cX7_lastHour 17 = .ok (.iload_n 2, 1) := by decide +kernel
theorem dX7_lastHour_18 : decode cX7_lastHour 18 = .ok (.iaload, 1) := by decide +kernel
theorem dX7_lastHour_19 : decode cX7_lastHour 19 = .ok (.invokestatic 83, 3) := by decide +kernel
theorem dX7_lastHour_22 : decode cX7_lastHour 22 = .ok (.istore_n 1, 1) := by decide +kernel
theorem dX7_lastHour_23 : decode cX7_lastHour 23 = .ok (.iinc 2 1, 3) := by decide +kernel
theorem dX7_lastHour_26 : decode cX7_lastHour 26 = .ok (.goto (-22), 3) := by decide +kernel
theorem dX7_lastHour_29 : decode cX7_lastHour 29 = .ok (.iload_n 1, 1) := by decide +kernel
theorem dX7_lastHour_30 : decode cX7_lastHour 30 = .ok (.ireturn, 1) := by decide +kernel
theorem dX8_init_0 : decode cX8_init 0 = .ok (.aload_n 0, 1) := by decide +kernel
theorem dX8_init_1 : decode cX8_init 1 = .ok (.invokespecial 3, 3) := by decide +kernel
theorem dX8_init_4 : decode cX8_init 4 = .ok (.aload_n 0, 1) := by decide +kernel
theorem dX8_init_5 : decode cX8_init 5 = .ok (.bipush 12, 2) := by decide +kernel
theorem dX8_init_7 : decode cX8_init 7 = .ok (.newarray .int, 2) := by decide +kernel
theorem dX8_init_9 : decode cX8_init 9 = .ok (.putfield 9, 3) := by decide +kernel
theorem dX8_init_12 : decode cX8_init 12 = .ok (.aload_n 0, 1) := by decide +kernel
theorem dX8_init_13 : decode cX8_init 13 = .ok (.bipush 12, 2) := by decide +kernel
theorem dX8_init_15 : decode cX8_init 15 = .ok (.newarray .int, 2) := by decide +kernel
theorem dX8_init_17 : decode cX8_init 17 = .ok (.putfield 15, 3) := by decide +kernel
theorem dX8_init_20 : decode cX8_init 20 = .ok (.return_, 1) := by decide +kernel
theorem dX8_take_0 : decode cX8_take 0 = .ok (.aload_n 1, 1) := by decide +kernel
theorem dX8_take_1 : decode cX8_take 1 = .ok (.getfield 18, 3) := by decide +kernel
theorem dX8_take_4 : decode cX8_take 4 = .ok (.ifCond .eq 21, 3) := by decide +kernel
theorem dX8_take_7 : decode cX8_take 7 = .ok (.aload_n 1, 1) := by decide +kernel
theorem dX8_take_8 : decode cX8_take 8 = .ok (.getfield 18, 3) := by decide +kernel
theorem dX8_take_11 : decode cX8_take 11 = .ok (.bipush 24, 2) := by decide +kernel
theorem dX8_take_13 : decode cX8_take 13 = .ok (.if_icmp .gt 12, 3) := by decide +kernel
theorem dX8_take_16 : decode cX8_take 16 = .ok (.aload_n 1, 1) := by decide +kernel
theorem dX8_take_17 : decode cX8_take 17 = .ok (.getfield 18, 3) := by decide +kernel
theorem dX8_take_20 : decode cX8_take 20 = .ok (.iconst 2, 1) := by decide +kernel
theorem dX8_take_21 : decode cX8_take 21 = .ok (.irem, 1) := by decide +kernel
theorem dX8_take_22 : decode cX8_take 22 = .ok (.ifCond .eq 5, 3) := by decide +kernel
theorem dX8_take_25 : decode cX8_take 25 = .ok (.iconst 0, 1) := by decide +kernel
theorem dX8_take_26 : decode cX8_take 26 = .ok (.ireturn, 1) := by decide +kernel
theorem dX8_take_27 : decode cX8_take 27 = .ok (.iconst 0, 1) := by decide +kernel
theorem dX8_take_28 : decode cX8_take 28 = .ok (.istore_n 3, 1) := by decide +kernel
theorem dX8_take_29 : decode cX8_take 29 = .ok (.iload_n 3, 1) := by decide +kernel
theorem dX8_take_30 : decode cX8_take 30 = .ok (.aload_n 1, 1) := by decide +kernel
theorem dX8_take_31 : decode cX8_take 31 = .ok (.getfield 18, 3) := by decide +kernel
theorem dX8_take_34 : decode cX8_take 34 = .ok (.if_icmp .ge 31, 3) := by decide +kernel
theorem dX8_take_37 : decode cX8_take 37 = .ok (.aload_n 1, 1) := by decide +kernel
theorem dX8_take_38 : decode cX8_take 38 = .ok (.iload_n 3, 1) := by decide +kernel
theorem dX8_take_39 : decode cX8_take 39 = .ok (.invokevirtual 24, 3) := by decide +kernel
theorem dX8_take_42 : decode cX8_take 42 = .ok (.iload_n 2, 1) := by decide +kernel
theorem dX8_take_43 : decode cX8_take 43 = .ok (.if_icmp .ge 14, 3) := by decide +kernel
theorem dX8_take_46 : decode cX8_take 46 = .ok (.aload_n 1, 1) := by decide +kernel
theorem dX8_take_47 : decode cX8_take 47 = .ok (.iload_n 3, 1) := by decide +kernel
theorem dX8_take_48 : decode cX8_take 48 = .ok (.iconst 1, 1) := by decide +kernel
theorem dX8_take_49 : decode cX8_take 49 = .ok (.iadd, 1) := by decide +kernel
theorem dX8_take_50 : decode cX8_take 50 = .ok (.invokevirtual 24, 3) := by decide +kernel
theorem dX8_take_53 : decode cX8_take 53 = .ok (.iconst 1, 1) := by decide +kernel
theorem dX8_take_54 : decode cX8_take 54 = .ok (.if_icmp .le 5, 3) := by decide +kernel
theorem dX8_take_57 : decode cX8_take 57 = .ok (.iconst 0, 1) := by decide +kernel
theorem dX8_take_58 : decode cX8_take 58 = .ok (.ireturn, 1) := by decide +kernel
theorem dX8_take_59 : decode cX8_take 59 = .ok (.iinc 3 2, 3) := by decide +kernel
theorem dX8_take_62 : decode cX8_take 62 = .ok (.goto (-33), 3) := by decide +kernel
theorem dX8_take_65 : decode cX8_take 65 = .ok (.aload_n 0, 1) := by decide +kernel
theorem dX8_take_66 : decode cX8_take 66 = .ok (.aload_n 1, 1) := by decide +kernel
theorem dX8_take_67 : decode cX8_take 67 = .ok (.getfield 18, 3) := by decide +kernel
theorem dX8_take_70 : decode cX8_take 70 = .ok (.iconst 2, 1) := by decide +kernel
theorem dX8_take_71 : decode cX8_take 71 = .ok (.idiv, 1) := by decide +kernel
theorem dX8_take_72 : decode cX8_take 72 = .ok (.putfield 28, 3) := by decide +kernel
theorem dX8_take_75 : decode cX8_take 75 = .ok (.iconst 0, 1) := by decide +kernel
theorem dX8_take_76 : decode cX8_take 76 = .ok (.istore_n 3, 1) := by decide +kernel
theorem dX8_take_77 : decode cX8_take 77 = .ok (.iload_n 3, 1) := by decide +kernel
theorem dX8_take_78 : decode cX8_take 78 = .ok (.aload_n 0, 1) := by decide +kernel
theorem dX8_take_79 : decode cX8_take 79 = .ok (.getfield 28, 3) := by decide +kernel
theorem dX8_take_82 : decode cX8_take 82 = .ok (.if_icmp .ge 37, 3) := by decide +kernel
theorem dX8_take_85 : decode cX8_take 85 = .ok (.aload_n 0, 1) := by decide +kernel
theorem dX8_take_86 : decode cX8_take 86 = .ok (.getfield 9, 3) := by decide +kernel
theorem dX8_take_89 : decode cX8_take 89 = .ok (.iload_n 3, 1) := by decide +kernel
theorem dX8_take_90 : decode cX8_take 90 = .ok (.aload_n 1, 1) := by decide +kernel
theorem dX8_take_91 : decode cX8_take 91 = .ok (.iconst 2, 1) := by decide +kernel
theorem dX8_take_92 : decode cX8_take 92 = .ok (.iload_n 3, 1) := by decide +kernel
theorem dX8_take_93 : decode cX8_take 93 = .ok (.imul, 1) := by decide +kernel
theorem dX8_take_94 : decode cX8_take 94 = .ok (.invokevirtual 24, 3) := by decide +kernel
theorem dX8_take_97 : decode cX8_take 97 = .ok (.iastore, 1) := by decide +kernel
theorem dX8_take_98 : decode cX8_take 98 = .ok (.aload_n 0, 1) := by decide +kernel
theorem dX8_take_99 : decode cX8_take 99 = .ok (.getfield 15, 3) := by decide +kernel
theorem dX8_take_102 : decode cX8_take 102 = .ok (.iload_n 3, 1) := by decide +kernel
theorem dX8_take_103 : decode cX8_take 103 = .ok (.aload_n 1, 1) := by decide +kernel
theorem dX8_take_104 : decode cX8_take 104 = .ok (.iconst 2, 1) := by decide +kernel
theorem dX8_take_105 : decode cX8_take 105 = .ok (.iload_n 3, 1) := by decide +kernel
theorem dX8_take_106 : decode cX8_take 106 = .ok (.imul, 1) := by decide +kernel
theorem dX8_take_107 : decode cX8_take 107 = .ok (.iconst 1, 1) := by decide +kernel
theorem dX8_take_108 : decode cX8_take 108 = .ok (.iadd, 1) := by decide +kernel
theorem dX8_take_109 : decode cX8_take 109 = .ok (.invokevirtual 24, 3) := by decide +kernel
theorem dX8_take_112 : decode cX8_take 112 = .ok (.iastore, 1) := by decide +kernel
theorem dX8_take_113 : decode cX8_take 113 = .ok (.iinc 3 1, 3) := by decide +kernel
theorem dX8_take_116 : decode cX8_take 116 = .ok (.goto (-39), 3) := by decide +kernel
theorem dX8_take_119 : decode cX8_take 119 = .ok (.iconst 1, 1) := by decide +kernel
theorem dX8_take_120 : decode cX8_take 120 = .ok (.ireturn, 1) := by decide +kernel
theorem dX8_fitting_0 : decode cX8_fitting 0 = .ok (.aload_n 0, 1) := by decide +kernel
theorem dX8_fitting_1 : decode cX8_fitting 1 = .ok (.getfield 28, 3) := by decide +kernel
theorem dX8_fitting_4 : decode cX8_fitting 4 = .ok (.ifCond .ne 5, 3) := by decide +kernel
theorem dX8_fitting_7 : decode cX8_fitting 7 = .ok (.iconst (-1), 1) := by decide +kernel
theorem dX8_fitting_8 : decode cX8_fitting 8 = .ok (.ireturn, 1) := by decide +kernel
theorem dX8_fitting_9 : decode cX8_fitting 9 = .ok (.iconst 0, 1) := by decide +kernel
theorem dX8_fitting_10 : decode cX8_fitting 10 = .ok (.istore_n 3, 1) := by decide +kernel
theorem dX8_fitting_11 : decode cX8_fitting 11 = .ok (.iload_n 3, 1) := by decide +kernel
theorem dX8_fitting_12 : decode cX8_fitting 12 = .ok (.aload_n 0, 1) := by decide +kernel
theorem dX8_fitting_13 : decode cX8_fitting 13 = .ok (.getfield 28, 3) := by decide +kernel
theorem dX8_fitting_16 : decode cX8_fitting 16 = .ok (.if_icmp .ge 24, 3) := by decide +kernel
theorem dX8_fitting_19 : decode cX8_fitting 19 = .ok (.aload_n 1, 1) := by decide +kernel
theorem dX8_fitting_20 : decode cX8_fitting 20 = .ok (.aload_n 0, 1) := by decide +kernel
theorem dX8_fitting_21 : decode cX8_fitting 21 = .ok (.getfield 9, 3) := by decide +kernel
theorem dX8_fitting_24 : decode cX8_fitting 24 = .ok (.iload_n 3, 1) := by decide +kernel
theorem dX8_fitting_25 : decode cX8_fitting 25 = .ok (.iaload, 1) := by decide +kernel
theorem dX8_fitting_26 : decode cX8_fitting 26 = .ok (.invokevirtual 31, 3) := by decide +kernel
theorem dX8_fitting_29 : decode cX8_fitting 29 = .ok (.ifCond .ne 5, 3) := by decide +kernel
theorem dX8_fitting_32 : decode cX8_fitting 32 = .ok (.iconst (-1), 1) := by decide +kernel
theorem dX8_fitting_33 : decode cX8_fitting 33 = .ok (.ireturn, 1) := by decide +kernel
theorem dX8_fitting_34 : decode cX8_fitting 34 = .ok (.iinc 3 1, 3) := by decide +kernel
theorem dX8_fitting_37 : decode cX8_fitting 37 = .ok (.goto (-26), 3) := by decide +kernel
theorem dX8_fitting_40 : decode cX8_fitting 40 = .ok (.iconst 0, 1) := by decide +kernel
theorem dX8_fitting_41 : decode cX8_fitting 41 = .ok (.istore_n 3, 1) := by decide +kernel
theorem dX8_fitting_42 : decode cX8_fitting 42 = .ok (.iconst 0, 1) := by decide +kernel
theorem dX8_fitting_43 : decode cX8_fitting 43 = .ok (.istore 4, 2) := by decide +kernel
theorem dX8_fitting_45 : decode cX8_fitting 45 = .ok (.iload 4, 2) := by decide +kernel
theorem dX8_fitting_47 : decode cX8_fitting 47 = .ok (.aload_n 1, 1) := by decide +kernel
theorem dX8_fitting_48 : decode cX8_fitting 48 = .ok (.getfield 37, 3) := by decide +kernel
theorem dX8_fitting_51 : decode cX8_fitting 51 = .ok (.if_icmp .ge 33, 3) := by decide +kernel
theorem dX8_fitting_54 : decode cX8_fitting 54 = .ok (.aload_n 0, 1) := by decide +kernel
theorem dX8_fitting_55 : decode cX8_fitting 55 = .ok (.aload_n 1, 1) := by decide +kernel
theorem dX8_fitting_56 : decode cX8_fitting 56 = .ok (.aload_n 2, 1) := by decide +kernel
theorem dX8_fitting_57 : decode cX8_fitting 57 = .ok (.iload 4, 2) := by decide +kernel
theorem dX8_fitting_59 : decode cX8_fitting 59 = .ok (.iaload, 1) := by decide +kernel
theorem dX8_fitting_60 : decode cX8_fitting 60 = .ok (.iconst 1, 1) := by decide +kernel
theorem dX8_fitting_61 : decode cX8_fitting 61 = .ok (.iload 4, 2) := by decide +kernel
theorem dX8_fitting_63 : decode cX8_fitting 63 = .ok (.ishl, 1) := by decide +kernel
theorem dX8_fitting_64 : decode cX8_fitting 64 = .ok (.ior, 1) := by decide +kernel
theorem dX8_fitting_65 : decode cX8_fitting 65 = .ok (.invokevirtual 40, 3) := by decide +kernel
theorem dX8_fitting_68 : decode cX8_fitting 68 = .ok (.ifCond .eq 10, 3) := by decide +kernel
theorem dX8_fitting_71 : decode cX8_fitting 71 = .ok (.iload_n 3, 1) := by decide +kernel
theorem dX8_fitting_72 : decode cX8_fitting 72 = .ok (.iconst 1, 1) := by decide +kernel
theorem dX8_fitting_73 : decode cX8_fitting 73 = .ok (.iload 4, 2) := by decide +kernel
theorem dX8_fitting_75 : decode cX8_fitting 75 = .ok (.ishl, 1) := by decide +kernel
theorem dX8_fitting_76 : decode cX8_fitting 76 = .ok (.ior, 1) := by decide +kernel
theorem dX8_fitting_77 : decode cX8_fitting 77 = .ok (.istore_n 3, 1) := by decide +kernel
theorem dX8_fitting_78 : decode cX8_fitting 78 = .ok (.iinc 4 1, 3) := by decide +kernel
theorem dX8_fitting_81 : decode cX8_fitting 81 = .ok (.goto (-36), 3) := by decide +kernel
theorem dX8_fitting_84 : decode cX8_fitting 84 = .ok (.iload_n 3, 1) := by decide +kernel
theorem dX8_fitting_85 : decode cX8_fitting 85 = .ok (.ireturn, 1) := by decide +kernel
theorem dX8_fitsAt_0 : decode cX8_fitsAt 0 = .ok (.iconst 0, 1) := by decide +kernel
theorem dX8_fitsAt_1 : decode cX8_fitsAt 1 = .ok (.istore_n 3, 1) := by decide +kernel
theorem dX8_fitsAt_2 : decode cX8_fitsAt 2 = .ok (.iload_n 3, 1) := by decide +kernel
theorem dX8_fitsAt_3 : decode cX8_fitsAt 3 = .ok (.aload_n 0, 1) := by decide +kernel
theorem dX8_fitsAt_4 : decode cX8_fitsAt 4 = .ok (.getfield 28, 3) := by decide +kernel
theorem dX8_fitsAt_7 : decode cX8_fitsAt 7 = .ok (.if_icmp .ge 35, 3) := by decide +kernel
theorem dX8_fitsAt_10 : decode cX8_fitsAt 10 = .ok (.iload_n 2, 1) := by decide +kernel
theorem dX8_fitsAt_11 : decode cX8_fitsAt 11 = .ok (.aload_n 1, 1) := by decide +kernel
theorem dX8_fitsAt_12 : decode cX8_fitsAt 12 = .ok (.getfield 44, 3) := by decide +kernel
theorem dX8_fitsAt_15 : decode cX8_fitsAt 15 = .ok (.aload_n 0, 1) := by decide +kernel
theorem dX8_fitsAt_16 : decode cX8_fitsAt 16 = .ok (.getfield 9, 3) := by decide +kernel
theorem dX8_fitsAt_19 : decode cX8_fitsAt 19 = .ok (.iload_n 3, 1) := by decide +kernel
theorem dX8_fitsAt_20 : decode cX8_fitsAt 20 = .ok (.iaload, 1) := by decide +kernel
theorem dX8_fitsAt_21 : decode cX8_fitsAt 21 = .ok (.iaload, 1) := by decide +kernel
theorem dX8_fitsAt_22 : decode cX8_fitsAt 22 = .ok (.ishr, 1) := by decide +kernel
theorem dX8_fitsAt_23 : decode cX8_fitsAt 23 = .ok (.iconst 1, 1) := by decide +kernel
theorem dX8_fitsAt_24 : decode cX8_fitsAt 24 = .ok (.iand, 1) := by decide +kernel
theorem dX8_fitsAt_25 : decode cX8_fitsAt 25 = .ok (.aload_n 0, 1) := by decide +kernel
theorem dX8_fitsAt_26 : decode cX8_fitsAt 26 = .ok (.getfield 15, 3) := by decide +kernel
theorem dX8_fitsAt_29 : decode cX8_fitsAt 29 = .ok (.iload_n 3, 1) := by decide +kernel
theorem dX8_fitsAt_30 : decode cX8_fitsAt 30 = .ok (.iaload, 1) := by decide +kernel
theorem dX8_fitsAt_31 : decode cX8_fitsAt 31 = .ok (.if_icmp .eq 5, 3) := by decide +kernel
theorem dX8_fitsAt_34 : decode cX8_fitsAt 34 = .ok (.iconst 0, 1) := by decide +kernel
theorem dX8_fitsAt_35 : decode cX8_fitsAt 35 = .ok (.ireturn, 1) := by decide +kernel
theorem dX8_fitsAt_36 : decode cX8_fitsAt 36 = .ok (.iinc 3 1, 3) := by decide +kernel
theorem dX8_fitsAt_39 : decode cX8_fitsAt 39 = .ok (.goto (-37), 3) := by decide +kernel
theorem dX8_fitsAt_42 : decode cX8_fitsAt 42 = .ok (.iconst 1, 1) := by decide +kernel
theorem dX8_fitsAt_43 : decode cX8_fitsAt 43 = .ok (.ireturn, 1) := by decide +kernel
theorem dX9_init_0 : decode cX9_init 0 = .ok (.aload_n 0, 1) := by decide +kernel
theorem dX9_init_1 : decode cX9_init 1 = .ok (.invokespecial 3, 3) := by decide +kernel
theorem dX9_init_4 : decode cX9_init 4 = .ok (.aload_n 0, 1) := by decide +kernel
theorem dX9_init_5 : decode cX9_init 5 = .ok (.bipush 20, 2) := by decide +kernel
theorem dX9_init_7 : decode cX9_init 7 = .ok (.newarray .int, 2) := by decide +kernel
theorem dX9_init_9 : decode cX9_init 9 = .ok (.putfield 9, 3) := by decide +kernel
theorem dX9_init_12 : decode cX9_init 12 = .ok (.aload_n 0, 1) := by decide +kernel
theorem dX9_init_13 : decode cX9_init 13 = .ok (.bipush 20, 2) := by decide +kernel
theorem dX9_init_15 : decode cX9_init 15 = .ok (.newarray .int, 2) := by decide +kernel
theorem dX9_init_17 : decode cX9_init 17 = .ok (.putfield 15, 3) := by decide +kernel
theorem dX9_init_20 : decode cX9_init 20 = .ok (.aload_n 0, 1) := by decide +kernel
theorem dX9_init_21 : decode cX9_init 21 = .ok (.bipush 30, 2) := by decide +kernel
theorem dX9_init_23 : decode cX9_init 23 = .ok (.newarray .int, 2) := by decide +kernel
theorem dX9_init_25 : decode cX9_init 25 = .ok (.putfield 18, 3) := by decide +kernel
theorem dX9_init_28 : decode cX9_init 28 = .ok (.aload_n 0, 1) := by decide +kernel
theorem dX9_init_29 : decode cX9_init 29 = .ok (.bipush 30, 2) := by decide +kernel
theorem dX9_init_31 : decode cX9_init 31 = .ok (.newarray .int, 2) := by decide +kernel
theorem dX9_init_33 : decode cX9_init 33 = .ok (.putfield 21, 3) := by decide +kernel
theorem dX9_init_36 : decode cX9_init 36 = .ok (.aload_n 0, 1) := by decide +kernel
theorem dX9_init_37 : decode cX9_init 37 = .ok (.bipush 30, 2) := by decide +kernel
theorem dX9_init_39 : decode cX9_init 39 = .ok (.newarray .int, 2) := by decide +kernel
theorem dX9_init_41 : decode cX9_init 41 = .ok (.putfield 24, 3) := by decide +kernel
theorem dX9_init_44 : decode cX9_init 44 = .ok (.aload_n 0, 1) := by decide +kernel
theorem dX9_init_45 : decode cX9_init 45 = .ok (.bipush 30, 2) := by decide +kernel
theorem dX9_init_47 : decode cX9_init 47 = .ok (.newarray .int, 2) := by decide +kernel
theorem dX9_init_49 : decode cX9_init 49 = .ok (.putfield 27, 3) := by decide +kernel
theorem dX9_init_52 : decode cX9_init 52 = .ok (.return_, 1) := by decide +kernel
theorem dX9_build_0 : decode cX9_build 0 = .ok (.aload_n 0, 1) := by decide +kernel
theorem dX9_build_1 : decode cX9_build 1 = .ok (.aload_n 1, 1) := by decide +kernel
theorem dX9_build_2 : decode cX9_build 2 = .ok (.aload_n 2, 1) := by decide +kernel
theorem dX9_build_3 : decode cX9_build 3 = .ok (.iload_n 3, 1) := by decide +kernel
theorem dX9_build_4 : decode cX9_build 4 = .ok (.iconst 1, 1) := by decide +kernel
theorem dX9_build_5 : decode cX9_build 5 = .ok (.if_icmp .ne 7, 3) := by decide +kernel
theorem dX9_build_8 : decode cX9_build 8 = .ok (.iconst 1, 1) := by decide +kernel
theorem dX9_build_9 : decode cX9_build 9 = .ok (.goto 4, 3) := by decide +kernel
theorem dX9_build_12 : decode cX9_build 12 = .ok (.iconst 0, 1) := by decide +kernel
theorem dX9_build_13 : decode cX9_build 13 = .ok (.invokevirtual 30, 3) := by decide +kernel
theorem dX9_build_16 : decode cX9_build 16 = .ok (.iload_n 3, 1) := by decide +kernel
theorem dX9_build_17 : decode cX9_build 17 = .ok (.iconst 2, 1) := by decide +kernel
theorem dX9_build_18 : decode cX9_build 18 = .ok (.if_icmp .ne 10, 3) := by decide +kernel
theorem dX9_build_21 : decode cX9_build 21 = .ok (.aload_n 0, 1) := by decide +kernel
theorem dX9_build_22 : decode cX9_build 22 = .ok (.aload_n 1, 1) := by decide +kernel
theorem dX9_build_23 : decode cX9_build 23 = .ok (.aload 4, 2) := by decide +kernel
theorem dX9_build_25 : decode cX9_build 25 = .ok (.invokevirtual 34, 3) := by decide +kernel
theorem dX9_build_28 : decode cX9_build 28 = .ok (.aload_n 0, 1) := by decide +kernel
theorem dX9_build_29 : decode cX9_build 29 = .ok (.aload_n 1, 1) := by decide +kernel
theorem dX9_build_30 : decode cX9_build 30 = .ok (.invokevirtual 38, 3) := by decide +kernel
theorem dX9_build_33 : decode cX9_build 33 = .ok (.aload_n 0, 1) := by decide +kernel
theorem dX9_build_34 : decode cX9_build 34 = .ok (.aload_n 1, 1) := by decide +kernel
theorem dX9_build_35 : decode cX9_build 35 = .ok (.aload_n 2, 1) := by decide +kernel
theorem dX9_build_36 : decode cX9_build 36 = .ok (.invokevirtual 42, 3) := by decide +kernel
theorem dX9_build_39 : decode cX9_build 39 = .ok (.aload_n 0, 1) := by decide +kernel
theorem dX9_build_40 : decode cX9_build 40 = .ok (.aload_n 1, 1) := by decide +kernel
theorem dX9_build_41 : decode cX9_build 41 = .ok (.aload_n 2, 1) := by decide +kernel
theorem dX9_build_42 : decode cX9_build 42 = .ok (.invokevirtual 46, 3) := by decide +kernel
theorem dX9_build_45 : decode cX9_build 45 = .ok (.return_, 1) := by decide +kernel
theorem dX9_findMains_0 : decode cX9_findMains 0 = .ok (.aload_n 0, 1) := by decide +kernel
theorem dX9_findMains_1 : decode cX9_findMains 1 = .ok (.getfield 9, 3) := by decide +kernel
theorem dX9_findMains_4 : decode cX9_findMains 4 = .ok (.iconst (-1), 1) := by decide +kernel
theorem dX9_findMains_5 : decode cX9_findMains 5 = .ok (.invokestatic 49, 3) := by decide +kernel
theorem dX9_findMains_8 : decode cX9_findMains 8 = .ok (.aload_n 0, 1) := by decide +kernel
theorem dX9_findMains_9 : decode cX9_findMains 9 = .ok (.getfield 15, 3) := by decide +kernel
theorem dX9_findMains_12 : decode cX9_findMains 12 = .ok (.iconst (-1), 1) := by decide +kernel
theorem dX9_findMains_13 : decode cX9_findMains 13 = .ok (.invokestatic 49, 3) := by decide +kernel
theorem dX9_findMains_16 : decode cX9_findMains 16 = .ok (.aload_n 2, 1) := by decide +kernel
theorem dX9_findMains_17 : decode cX9_findMains 17 = .ok (.getfield 55, 3) := by decide +kernel
theorem dX9_findMains_20 : decode cX9_findMains 20 = .ok (.getfield 61, 3) := by decide +kernel
theorem dX9_findMains_23 : decode cX9_findMains 23 = .ok (.astore 4, 2) := by decide +kernel
theorem dX9_findMains_25 : decode cX9_findMains 25 = .ok (.iconst 0, 1) := by decide +kernel
theorem dX9_findMains_26 : decode cX9_findMains 26 = .ok (.istore 5, 2) := by decide +kernel
theorem dX9_findMains_28 : decode cX9_findMains 28 = .ok (.iload 5, 2) := by decide +kernel
theorem dX9_findMains_30 : decode cX9_findMains 30 = .ok (.aload_n 1, 1) := by decide +kernel
theorem dX9_findMains_31 : decode cX9_findMains 31 = .ok (.getfield 66, 3) := by decide +kernel
theorem dX9_findMains_34 : decode cX9_findMains 34 = .ok (.if_icmp .ge 109, 3) := by decide +kernel
theorem dX9_findMains_37 : decode cX9_findMains 37 = .ok (.aload_n 0, 1) := by decide +kernel
theorem dX9_findMains_38 : decode cX9_findMains 38 = .ok (.getfield 9, 3) := by decide +kernel
theorem dX9_findMains_41 : decode cX9_findMains 41 = .ok (.aload_n 1, 1) := by decide +kernel
theorem dX9_findMains_42 : decode cX9_findMains 42 = .ok (.getfield 72, 3) := by decide +kernel
theorem dX9_findMains_45 : decode cX9_findMains 45 = .ok (.iload 5, 2) := by decide +kernel
theorem dX9_findMains_47 : decode cX9_findMains 47 = .ok (.iaload, 1) := by decide +kernel
theorem dX9_findMains_48 : decode cX9_findMains 48 = .ok (.iaload, 1) := by decide +kernel
theorem dX9_findMains_49 : decode cX9_findMains 49 = .ok (.istore 6, 2) := by decide +kernel
theorem dX9_findMains_51 : decode cX9_findMains 51 = .ok (.iload 6, 2) := by decide +kernel
theorem dX9_findMains_53 : decode cX9_findMains 53 = .ok (.iconst (-1), 1) := by decide +kernel
theorem dX9_findMains_54 : decode cX9_findMains 54 = .ok (.if_icmp .eq 22, 3) := by decide +kernel
theorem dX9_findMains_57 : decode cX9_findMains 57 = .ok (.aload_n 1, 1) := by decide +kernel
theorem dX9_findMains_58 : decode cX9_findMains 58 = .ok (.aload_n 2, 1) := by decide +kernel
theorem dX9_findMains_59 : decode cX9_findMains 59 = .ok (.iload 5, 2) := by decide +kernel
theorem dX9_findMains_61 : decode cX9_findMains 61 = .ok (.iload_n 3, 1) := by decide +kernel
theorem dX9_findMains_62 : decode cX9_findMains 62 = .ok (.invokestatic 75, 3) := by decide +kernel
theorem dX9_findMains_65 : decode cX9_findMains 65 = .ok (.aload_n 1, 1) := by decide +kernel
theorem dX9_findMains_66 : decode cX9_findMains 66 = .ok (.aload_n 2, 1) := by decide +kernel
theorem dX9_findMains_67 : decode cX9_findMains 67 = .ok (.iload 6, 2) := by decide +kernel
theorem dX9_findMains_69 : decode cX9_findMains 69 = .ok (.iload_n 3, 1) := by decide +kernel
theorem dX9_findMains_70 : decode cX9_findMains 70 = .ok (.invokestatic 75, 3) := by decide +kernel
theorem dX9_findMains_73 : decode cX9_findMains 73 = .ok (.if_icmp .le 17, 3) := by decide +kernel
theorem dX9_findMains_76 : decode cX9_findMains 76 = .ok (.aload_n 0, 1) := by decide +kernel
theorem dX9_findMains_77 : decode cX9_findMains 77 = .ok (.getfield 9, 3) := by decide +kernel
theorem dX9_findMains_80 : decode cX9_findMains 80 = .ok (.aload_n 1, 1) := by decide +kernel
theorem dX9_findMains_81 : decode cX9_findMains 81 = .ok (.getfield 72, 3) := by decide +kernel
theorem dX9_findMains_84 : decode cX9_findMains 84 = .ok (.iload 5, 2) := by decide +kernel
theorem dX9_findMains_86 : decode cX9_findMains 86 = .ok (.iaload, 1) := by decide +kernel
theorem dX9_findMains_87 : decode cX9_findMains 87 = .ok (.iload 5, 2) := by decide +kernel
theorem dX9_findMains_89 : decode cX9_findMains 89 = .ok (.iastore, 1) := by decide +kernel
theorem dX9_findMains_90 : decode cX9_findMains 90 = .ok (.aload_n 0, 1) := by decide +kernel
theorem dX9_findMains_91 : decode cX9_findMains 91 = .ok (.getfield 15, 3) := by decide +kernel
theorem dX9_findMains_94 : decode cX9_findMains 94 = .ok (.aload_n 1, 1) := by decide +kernel
theorem dX9_findMains_95 : decode cX9_findMains 95 = .ok (.getfield 79, 3) := by decide +kernel
theorem dX9_findMains_98 : decode cX9_findMains 98 = .ok (.iload 5, 2) := by decide +kernel
theorem dX9_findMains_100 : decode cX9_findMains 100 = .ok (.iaload, 1) := by decide +kernel
theorem dX9_findMains_101 : decode cX9_findMains 101 = .ok (.iaload, 1) := by decide +kernel
theorem dX9_findMains_102 : decode cX9_findMains 102 = .ok (.istore 7, 2) := by decide +kernel
theorem dX9_findMains_104 : decode cX9_findMains 104 = .ok (.iload 7, 2) := by decide +kernel
theorem dX9_findMains_106 : decode cX9_findMains 106 = .ok (.iconst (-1), 1) := by decide +kernel
theorem dX9_findMains_107 : decode cX9_findMains 107 = .ok (.if_icmp .eq 16, 3) := by decide +kernel
theorem dX9_findMains_110 : decode cX9_findMains 110 = .ok (.aload 4, 2) := by decide +kernel
theorem dX9_findMains_112 : decode cX9_findMains 112 = .ok (.iload 5, 2) := by decide +kernel
theorem dX9_findMains_114 : decode cX9_findMains 114 = .ok (.iaload, 1) := by decide +kernel
theorem dX9_findMains_115 : decode cX9_findMains 115 = .ok (.aload 4, 2) := by decide +kernel
theorem dX9_findMains_117 : decode cX9_findMains 117 = .ok (.iload 7, 2) := by decide +kernel
theorem dX9_findMains_119 : decode cX9_findMains 119 = .ok (.iaload, 1) := by decide +kernel
theorem dX9_findMains_120 : decode cX9_findMains 120 = .ok (.if_icmp .le 17, 3) := by decide +kernel
theorem dX9_findMains_123 : decode cX9_findMains 123 = .ok (.aload_n 0, 1) := by decide +kernel
theorem dX9_findMains_124 : decode cX9_findMains 124 = .ok (.getfield 15, 3) := by decide +kernel
theorem dX9_findMains_127 : decode cX9_findMains 127 = .ok (.aload_n 1, 1) := by decide +kernel
theorem dX9_findMains_128 : decode cX9_findMains 128 = .ok (.getfield 79, 3) := by decide +kernel
theorem dX9_findMains_131 : decode cX9_findMains 131 = .ok (.iload 5, 2) := by decide +kernel
theorem dX9_findMains_133 : decode cX9_findMains 133 = .ok (.iaload, 1) := by decide +kernel
theorem dX9_findMains_134 : decode cX9_findMains 134 = .ok (.iload 5, 2) := by decide +kernel
theorem dX9_findMains_136 : decode cX9_findMains 136 = .ok (.iastore, 1) := by decide +kernel
theorem dX9_findMains_137 : decode cX9_findMains 137 = .ok (.iinc 5 1, 3) := by decide +kernel
theorem dX9_findMains_140 : decode cX9_findMains 140 = .ok (.goto (-112), 3) := by decide +kernel
theorem dX9_findMains_143 : decode cX9_findMains 143 = .ok (.return_, 1) := by decide +kernel
theorem dX9_weight_0 : decode cX9_weight 0 = .ok (.iload_n 3, 1) := by decide +kernel
theorem dX9_weight_1 : decode cX9_weight 1 = .ok (.ifCond .eq 22, 3) := by decide +kernel
theorem dX9_weight_4 : decode cX9_weight 4 = .ok (.aload_n 0, 1) := by decide +kernel
theorem dX9_weight_5 : decode cX9_weight 5 = .ok (.getfield 82, 3) := by decide +kernel
theorem dX9_weight_8 : decode cX9_weight 8 = .ok (.iload_n 2, 1) := by decide +kernel
theorem dX9_weight_9 : decode cX9_weight 9 = .ok (.iaload, 1) := by decide +kernel
theorem dX9_weight_10 : decode cX9_weight 10 = .ok (.aload_n 1, 1) := by decide +kernel
theorem dX9_weight_11 : decode cX9_weight 11 = .ok (.getfield 85, 3) := by decide +kernel
theorem dX9_weight_14 : decode cX9_weight 14 = .ok (.aload_n 0, 1) := by decide +kernel
theorem dX9_weight_15 : decode cX9_weight 15 = .ok (.getfield 79, 3) := by decide +kernel
theorem dX9_weight_18 : decode cX9_weight 18 = .ok (.iload_n 2, 1) := by decide +kernel
theorem dX9_weight_19 : decode cX9_weight 19 = .ok (.iaload, 1) := by decide +kernel
theorem dX9_weight_20 : decode cX9_weight 20 = .ok (.iaload, 1) := by decide +kernel
theorem dX9_weight_21 : decode cX9_weight 21 = .ok (.iadd, 1) := by decide +kernel
theorem dX9_weight_22 : decode cX9_weight 22 = .ok (.ireturn, 1) := by decide +kernel
theorem dX9_weight_23 : decode cX9_weight 23 = .ok (.aload_n 1, 1) := by decide +kernel
theorem dX9_weight_24 : decode cX9_weight 24 = .ok (.getfield 55, 3) := by decide +kernel
theorem dX9_weight_27 : decode cX9_weight 27 = .ok (.getfield 61, 3) := by decide +kernel
theorem dX9_weight_30 : decode cX9_weight 30 = .ok (.iload_n 2, 1) := by decide +kernel
theorem dX9_weight_31 : decode cX9_weight 31 = .ok (.iaload, 1) := by decide +kernel
theorem dX9_weight_32 : decode cX9_weight 32 = .ok (.ireturn, 1) := by decide +kernel
theorem dX9_preferNames_0 : decode cX9_preferNames 0 = .ok (.aload_n 1, 1) := by decide +kernel
theorem dX9_preferNames_1 : decode cX9_preferNames 1 = .ok (.getfield 66, 3) := by decide +kernel
theorem dX9_preferNames_4 : decode cX9_preferNames 4 = .ok (.iconst 1, 1) := by decide +kernel
theorem dX9_preferNames_5 : decode cX9_preferNames 5 = .ok (.isub, 1) := by decide +kernel
theorem dX9_preferNames_6 : decode cX9_preferNames 6 = .ok (.istore_n 3, 1) := by decide +kernel
theorem dX9_preferNames_7 : decode cX9_preferNames 7 = .ok (.iload_n 3, 1) := by decide +kernel
theorem dX9_preferNames_8 : decode cX9_preferNames 8 = .ok (.ifCond .lt 116, 3) := by decide +kernel
theorem dX9_preferNames_11 : decode cX9_preferNames 11 = .ok (.aload_n 1, 1) := by decide +kernel
theorem dX9_preferNames_12 : decode cX9_preferNames 12 = .ok (.getfield 88, 3) := by decide +kernel
theorem dX9_preferNames_15 : decode cX9_preferNames 15 = .ok (.iload_n 3, 1) := by decide +kernel
theorem dX9_preferNames_16 : decode cX9_preferNames 16 = .ok (.iaload, 1) := by decide +kernel
theorem dX9_preferNames_17 : decode cX9_preferNames 17 = .ok (.iconst (-1), 1) := by decide +kernel
theorem dX9_preferNames_18 : decode cX9_preferNames 18 = .ok (.if_icmp .ne 6, 3) := by decide +kernel
theorem dX9_preferNames_21 : decode cX9_preferNames 21 = .ok (.goto 97, 3) := by decide +kernel
theorem dX9_preferNames_24 : decode cX9_preferNames 24 = .ok (.aload_n 2, 1) := by decide +kernel
theorem dX9_preferNames_25 : decode cX9_preferNames 25 = .ok (.getfield 15, 3) := by decide +kernel
theorem dX9_preferNames_28 : decode cX9_preferNames 28 = .ok (.aload_n 1, 1) := by decide +kernel
theorem dX9_preferNames_29 : decode cX9_preferNames 29 = .ok (.getfield 72, 3) := by decide +kernel
theorem dX9_preferNames_32 : decode cX9_preferNames 32 = .ok (.iload_n 3, 1) := by decide +kernel
theorem dX9_preferNames_33 : decode cX9_preferNames 33 = .ok (.iaload, 1) := by decide +kernel
theorem dX9_preferNames_34 : decode cX9_preferNames 34 = .ok (.iaload, 1) := by decide +kernel
theorem dX9_preferNames_35 : decode cX9_preferNames 35 = .ok (.istore 4, 2) := by decide +kernel
theorem dX9_preferNames_37 : decode cX9_preferNames 37 = .ok (.iload 4, 2) := by decide +kernel
theorem dX9_preferNames_39 : decode cX9_preferNames 39 = .ok (.iconst (-1), 1) := by decide +kernel
theorem dX9_preferNames_40 : decode cX9_preferNames 40 = .ok (.if_icmp .eq 31, 3) := by decide +kernel
theorem dX9_preferNames_43 : decode cX9_preferNames 43 = .ok (.aload_n 1, 1) := by decide +kernel
theorem dX9_preferNames_44 : decode cX9_preferNames 44 = .ok (.getfield 88, 3) := by decide +kernel
theorem dX9_preferNames_47 : decode cX9_preferNames 47 = .ok (.iload 4, 2) := by decide +kernel
theorem dX9_preferNames_49 : decode cX9_preferNames 49 = .ok (.iaload, 1) := by decide +kernel
theorem dX9_preferNames_50 : decode cX9_preferNames 50 = .ok (.aload_n 1, 1) := by decide +kernel
theorem dX9_preferNames_51 : decode cX9_preferNames 51 = .ok (.getfield 88, 3) := by decide +kernel
theorem dX9_preferNames_54 : decode cX9_preferNames 54 = .ok (.iload_n 3, 1) := by decide +kernel
theorem dX9_preferNames_55 : decode cX9_preferNames 55 = .ok (.iaload, 1) := by decide +kernel
theorem dX9_preferNames_56 : decode cX9_preferNames 56 = .ok (.if_icmp .ne 15, 3) := by decide +kernel
theorem dX9_preferNames_59 : decode cX9_preferNames 59 = .ok (.aload_n 0, 1) := by decide +kernel
theorem dX9_preferNames_60 : decode cX9_preferNames 60 = .ok (.getfield 9, 3) := by decide +kernel
theorem dX9_preferNames_63 : decode cX9_preferNames 63 = .ok (.aload_n 1, 1) := by decide +kernel
theorem dX9_preferNames_64 : decode cX9_preferNames 64 = .ok (.getfield 72, 3) := by decide +kernel
theorem dX9_preferNames_67 : decode cX9_preferNames 67 = .ok (.iload_n 3, 1) := by decide +kernel
theorem dX9_preferNames_68 : decode cX9_preferNames 68 = .ok (.iaload, 1) := by decide +kernel
theorem dX9_preferNames_69 : decode cX9_preferNames 69 = .ok (.iload_n 3, 1) := by decide +kernel
theorem dX9_preferNames_70 : decode cX9_preferNames 70 = .ok (.iastore, 1) := by decide +kernel
theorem dX9_preferNames_71 : decode cX9_preferNames 71 = .ok (.aload_n 2, 1) := by decide +kernel
theorem dX9_preferNames_72 : decode cX9_preferNames 72 = .ok (.getfield 9, 3) := by decide +kernel
theorem dX9_preferNames_75 : decode cX9_preferNames 75 = .ok (.aload_n 1, 1) := by decide +kernel
theorem dX9_preferNames_76 : decode cX9_preferNames 76 = .ok (.getfield 79, 3) := by decide +kernel
theorem dX9_preferNames_79 : decode cX9_preferNames 79 = .ok (.iload_n 3, 1) := by decide +kernel
theorem dX9_preferNames_80 : decode cX9_preferNames 80 = .ok (.iaload, 1) := by decide +kernel
theorem dX9_preferNames_81 : decode cX9_preferNames 81 = .ok (.iaload, 1) := by decide +kernel
theorem dX9_preferNames_82 : decode cX9_preferNames 82 = .ok (.istore 5, 2) := by decide +kernel
theorem dX9_preferNames_84 : decode cX9_preferNames 84 = .ok (.iload 5, 2) := by decide +kernel
theorem dX9_preferNames_86 : decode cX9_preferNames 86 = .ok (.iconst (-1), 1) := by decide +kernel
theorem dX9_preferNames_87 : decode cX9_preferNames 87 = .ok (.if_icmp .eq 31, 3) := by decide +kernel
theorem dX9_preferNames_90 : decode cX9_preferNames 90 = .ok (.aload_n 1, 1) := by decide +kernel
theorem dX9_preferNames_91 : decode cX9_preferNames 91 = .ok (.getfield 88, 3) := by decide +kernel
theorem dX9_preferNames_94 : decode cX9_preferNames 94 = .ok (.iload 5, 2) := by decide +kernel
theorem dX9_preferNames_96 : decode cX9_preferNames 96 = .ok (.iaload, 1) := by decide +kernel
theorem dX9_preferNames_97 : decode cX9_preferNames 97 = .ok (.aload_n 1, 1) := by decide +kernel
theorem dX9_preferNames_98 : decode cX9_preferNames 98 = .ok (.getfield 88, 3) := by decide +kernel
theorem dX9_preferNames_101 : decode cX9_preferNames 101 = .ok (.iload_n 3, 1) := by decide +kernel
theorem dX9_preferNames_102 : decode cX9_preferNames 102 = .ok (.iaload, 1) := by decide +kernel
theorem dX9_preferNames_103 : decode cX9_preferNames 103 = .ok (.if_icmp .ne 15, 3) := by decide +kernel
theorem dX9_preferNames_106 : decode cX9_preferNames 106 = .ok (.aload_n 0, 1) := by decide +kernel
theorem dX9_preferNames_107 : decode cX9_preferNames 107 = .ok (.getfield 15, 3) := by decide +kernel
theorem dX9_preferNames_110 : decode cX9_preferNames 110 = .ok (.aload_n 1, 1) := by decide +kernel
theorem dX9_preferNames_111 : decode cX9_preferNames 111 = .ok (.getfield 79, 3) := by decide +kernel
theorem dX9_preferNames_114 : decode cX9_preferNames 114 = .ok (.iload_n 3, 1) := by decide +kernel
theorem dX9_preferNames_115 : decode cX9_preferNames 115 = .ok (.iaload, 1) := by decide +kernel
theorem dX9_preferNames_116 : decode cX9_preferNames 116 = .ok (.iload_n 3, 1) := by decide +kernel
theorem dX9_preferNames_117 : decode cX9_preferNames 117 = .ok (.iastore, 1) := by decide +kernel
theorem dX9_preferNames_118 : decode cX9_preferNames 118 = .ok (.iinc 3 (-1), 3) := by decide +kernel
theorem dX9_preferNames_121 : decode cX9_preferNames 121 = .ok (.goto (-114), 3) := by decide +kernel
theorem dX9_preferNames_124 : decode cX9_preferNames 124 = .ok (.return_, 1) := by decide +kernel
theorem dX9_join_0 : decode cX9_join 0 = .ok (.aload_n 0, 1) := by decide +kernel
theorem dX9_join_1 : decode cX9_join 1 = .ok (.getfield 18, 3) := by decide +kernel
theorem dX9_join_4 : decode cX9_join 4 = .ok (.iconst (-1), 1) := by decide +kernel
theorem dX9_join_5 : decode cX9_join 5 = .ok (.invokestatic 49, 3) := by decide +kernel
theorem dX9_join_8 : decode cX9_join 8 = .ok (.aload_n 0, 1) := by decide +kernel
theorem dX9_join_9 : decode cX9_join 9 = .ok (.getfield 21, 3) := by decide +kernel
theorem dX9_join_12 : decode cX9_join 12 = .ok (.iconst (-1), 1) := by decide +kernel
theorem dX9_join_13 : decode cX9_join 13 = .ok (.invokestatic 49, 3) := by decide +kernel
theorem dX9_join_16 : decode cX9_join 16 = .ok (.iconst 0, 1) := by decide +kernel
theorem dX9_join_17 : decode cX9_join 17 = .ok (.istore_n 2, 1) := by decide +kernel
theorem dX9_join_18 : decode cX9_join 18 = .ok (.iload_n 2, 1) := by decide +kernel
theorem dX9_join_19 : decode cX9_join 19 = .ok (.aload_n 1, 1) := by decide +kernel
theorem dX9_join_20 : decode cX9_join 20 = .ok (.getfield 91, 3) := by decide +kernel
theorem dX9_join_23 : decode cX9_join 23 = .ok (.if_icmp .ge 51, 3) := by decide +kernel
theorem dX9_join_26 : decode cX9_join 26 = .ok (.aload_n 0, 1) := by decide +kernel
theorem dX9_join_27 : decode cX9_join 27 = .ok (.getfield 9, 3) := by decide +kernel
theorem dX9_join_30 : decode cX9_join 30 = .ok (.iload_n 2, 1) := by decide +kernel
theorem dX9_join_31 : decode cX9_join 31 = .ok (.iaload, 1) := by decide +kernel
theorem dX9_join_32 : decode cX9_join 32 = .ok (.istore_n 3, 1) := by decide +kernel
theorem dX9_join_33 : decode cX9_join 33 = .ok (.aload_n 0, 1) := by decide +kernel
theorem dX9_join_34 : decode cX9_join 34 = .ok (.getfield 15, 3) := by decide +kernel
theorem dX9_join_37 : decode cX9_join 37 = .ok (.iload_n 2, 1) := by decide +kernel
theorem dX9_join_38 : decode cX9_join 38 = .ok (.iaload, 1) := by decide +kernel
theorem dX9_join_39 : decode cX9_join 39 = .ok (.istore 4, 2) := by decide +kernel
theorem dX9_join_41 : decode cX9_join 41 = .ok (.iload_n 3, 1) := by decide +kernel
theorem dX9_join_42 : decode cX9_join 42 = .ok (.iconst (-1), 1) := by decide +kernel
theorem dX9_join_43 : decode cX9_join 43 = .ok (.if_icmp .eq 25, 3) := by decide +kernel
theorem dX9_join_46 : decode cX9_join 46 = .ok (.iload 4, 2) := by decide +kernel
theorem dX9_join_48 : decode cX9_join 48 = .ok (.iconst (-1), 1) := by decide +kernel
theorem dX9_join_49 : decode cX9_join 49 = .ok (.if_icmp .eq 19, 3) := by decide +kernel
theorem dX9_join_52 : decode cX9_join 52 = .ok (.aload_n 0, 1) := by decide +kernel
theorem dX9_join_53 : decode cX9_join 53 = .ok (.getfield 18, 3) := by decide +kernel
theorem dX9_join_56 : decode cX9_join 56 = .ok (.iload_n 3, 1) := by decide +kernel
theorem dX9_join_57 : decode cX9_join 57 = .ok (.iload 4, 2) := by decide +kernel
theorem dX9_join_59 : decode cX9_join 59 = .ok (.iastore, 1) := by decide +kernel
theorem dX9_join_60 : decode cX9_join 60 = .ok (.aload_n 0, 1) := by decide +kernel
theorem dX9_join_61 : decode cX9_join 61 = .ok (.getfield 21, 3) := by decide +kernel
theorem dX9_join_64 : decode cX9_join 64 = .ok (.iload 4, 2) := by decide +kernel
theorem dX9_join_66 : decode cX9_join 66 = .ok (.iload_n 3, 1) := by decide +kernel
theorem dX9_join_67 : decode cX9_join 67 = .ok (.iastore, 1) := by decide +kernel
theorem dX9_join_68 : decode cX9_join 68 = .ok (.iinc 2 1, 3) := by decide +kernel
theorem dX9_join_71 : decode cX9_join 71 = .ok (.goto (-53), 3) := by decide +kernel
theorem dX9_join_74 : decode cX9_join 74 = .ok (.return_, 1) := by decide +kernel
theorem dX9_findBranches_0 : decode cX9_findBranches 0 = .ok (.aload_n 1, 1) := by decide +kernel
theorem dX9_findBranches_1 : decode cX9_findBranches 1 = .ok (.getfield 66, 3) := by decide +kernel
theorem dX9_findBranches_4 : decode cX9_findBranches 4 = .ok (.iconst 1, 1) := by decide +kernel
theorem dX9_findBranches_5 : decode cX9_findBranches 5 = .ok (.isub, 1) := by decide +kernel
theorem dX9_findBranches_6 : decode cX9_findBranches 6 = .ok (.istore_n 3, 1) := by decide +kernel
theorem dX9_findBranches_7 : decode cX9_findBranches 7 = .ok (.iload_n 3, 1) := by decide +kernel
theorem dX9_findBranches_8 : decode cX9_findBranches 8 = .ok (.ifCond .lt 64, 3) := by decide +kernel
theorem dX9_findBranches_11 : decode cX9_findBranches 11 = .ok (.aload_n 2, 1) := by decide +kernel
theorem dX9_findBranches_12 : decode cX9_findBranches 12 = .ok (.getfield 94, 3) := by decide +kernel
theorem dX9_findBranches_15 : decode cX9_findBranches 15 = .ok (.iload_n 3, 1) := by decide +kernel
theorem dX9_findBranches_16 : decode cX9_findBranches 16 = .ok (.iaload, 1) := by decide +kernel
theorem dX9_findBranches_17 : decode cX9_findBranches 17 = .ok (.istore 4, 2) := by decide +kernel
theorem dX9_findBranches_19 : decode cX9_findBranches 19 = .ok (.aload_n 0, 1) := by decide +kernel
theorem dX9_findBranches_20 : decode cX9_findBranches 20 = .ok (.getfield 24, 3) := by decide +kernel
theorem dX9_findBranches_23 : decode cX9_findBranches 23 = .ok (.iload 4, 2) := by decide +kernel
theorem dX9_findBranches_25 : decode cX9_findBranches 25 = .ok (.aload_n 0, 1) := by decide +kernel
theorem dX9_findBranches_26 : decode cX9_findBranches 26 = .ok (.getfield 18, 3) := by decide +kernel
theorem dX9_findBranches_29 : decode cX9_findBranches 29 = .ok (.iload 4, 2) := by decide +kernel
theorem dX9_findBranches_31 : decode cX9_findBranches 31 = .ok (.iaload, 1) := by decide +kernel
theorem dX9_findBranches_32 : decode cX9_findBranches 32 = .ok (.iconst (-1), 1) := by decide +kernel
theorem dX9_findBranches_33 : decode cX9_findBranches 33 = .ok (.if_icmp .eq 18, 3) := by decide +kernel
theorem dX9_findBranches_36 : decode cX9_findBranches 36 = .ok (.aload_n 0, 1) := by decide +kernel
theorem dX9_findBranches_37 : decode cX9_findBranches 37 = .ok (.getfield 24, 3) := by decide +kernel
theorem dX9_findBranches_40 : decode cX9_findBranches 40 = .ok (.aload_n 0, 1) := by decide +kernel
theorem dX9_findBranches_41 : decode cX9_findBranches 41 = .ok (.getfield 18, 3) := by decide +kernel
theorem dX9_findBranches_44 : decode cX9_findBranches 44 = .ok (.iload 4, 2) := by decide +kernel
theorem dX9_findBranches_46 : decode cX9_findBranches 46 = .ok (.iaload, 1) := by decide +kernel
theorem dX9_findBranches_47 : decode cX9_findBranches 47 = .ok (.iaload, 1) := by decide +kernel
theorem dX9_findBranches_48 : decode cX9_findBranches 48 = .ok (.goto 17, 3) := by decide +kernel
theorem dX9_findBranches_51 : decode cX9_findBranches 51 = .ok (.iconst 1, 1) := by decide +kernel
theorem dX9_findBranches_52 : decode cX9_findBranches 52 = .ok (.aload_n 0, 1) := by decide +kernel
theorem dX9_findBranches_53 : decode cX9_findBranches 53 = .ok (.aload_n 1, 1) := by decide +kernel
theorem dX9_findBranches_54 : decode cX9_findBranches 54 = .ok (.aload_n 1, 1) := by decide +kernel
theorem dX9_findBranches_55 : decode cX9_findBranches 55 = .ok (.getfield 72, 3) := by decide +kernel
theorem dX9_findBranches_58 : decode cX9_findBranches 58 = .ok (.iload 4, 2) := by decide +kernel
theorem dX9_findBranches_60 : decode cX9_findBranches 60 = .ok (.iaload, 1) := by decide +kernel
theorem dX9_findBranches_61 : decode cX9_findBranches 61 = .ok (.invokevirtual 97, 3) := by decide +kernel
theorem dX9_findBranches_64 : decode cX9_findBranches 64 = .ok (.iadd, 1) := by decide +kernel
theorem dX9_findBranches_65 : decode cX9_findBranches 65 = .ok (.iastore, 1) := by decide +kernel
theorem dX9_findBranches_66 : decode cX9_findBranches 66 = .ok (.iinc 3 (-1), 3) := by decide +kernel
theorem dX9_findBranches_69 : decode cX9_findBranches 69 = .ok (.goto (-62), 3) := by decide +kernel
theorem dX9_findBranches_72 : decode cX9_findBranches 72 = .ok (.return_, 1) := by decide +kernel
theorem dX9_leastBranchFrom_0 : decode cX9_leastBranchFrom 0 = .ok (.iconst 0, 1) := by decide +kernel
theorem dX9_leastBranchFrom_1 : decode cX9_leastBranchFrom 1 = .ok (.istore_n 3, 1) := by decide +kernel
theorem dX9_leastBranchFrom_2 : decode cX9_leastBranchFrom 2 = .ok (.iconst 0, 1) := by decide +kernel
theorem dX9_leastBranchFrom_3 : decode cX9_leastBranchFrom 3 = .ok (.istore 4, 2) := by decide +kernel
theorem dX9_leastBranchFrom_5 : decode cX9_leastBranchFrom 5 = .ok (.iload 4, 2) := by decide +kernel
theorem dX9_leastBranchFrom_7 : decode cX9_leastBranchFrom 7 = .ok (.aload_n 1, 1) := by decide +kernel
theorem dX9_leastBranchFrom_8 : decode cX9_leastBranchFrom 8 = .ok (.getfield 66, 3) := by decide +kernel
theorem dX9_leastBranchFrom_11 : decode cX9_leastBranchFrom 11 = .ok (.if_icmp .ge 43, 3) := by decide +kernel
theorem dX9_leastBranchFrom_14 : decode cX9_leastBranchFrom 14 = .ok (.aload_n 1, 1) := by decide +kernel
theorem dX9_leastBranchFrom_15 : decode cX9_leastBranchFrom 15 = .ok (.getfield 79, 3) := by decide +kernel
theorem dX9_leastBranchFrom_18 : decode cX9_leastBranchFrom 18 = .ok (.iload 4, 2) := by decide +kernel
theorem dX9_leastBranchFrom_20 : decode cX9_leastBranchFrom 20 = .ok (.iaload, 1) := by decide +kernel
theorem dX9_leastBranchFrom_21 : decode cX9_leastBranchFrom 21 = .ok (.iload_n 2, 1) := by decide +kernel
theorem dX9_leastBranchFrom_22 : decode cX9_leastBranchFrom 22 = .ok (.if_icmp .ne 26, 3) := by decide +kernel
theorem dX9_leastBranchFrom_25 : decode cX9_leastBranchFrom 25 = .ok (.iload_n 3, 1) := by decide +kernel
theorem dX9_leastBranchFrom_26 : decode cX9_leastBranchFrom 26 = .ok (.ifCond .eq 14, 3) := by decide +kernel
theorem dX9_leastBranchFrom_29 : decode cX9_leastBranchFrom 29 = .ok (.aload_n 0, 1) := by decide +kernel
theorem dX9_leastBranchFrom_30 : decode cX9_leastBranchFrom 30 = .ok (.getfield 24, 3) := by decide +kernel
theorem dX9_leastBranchFrom_33 : decode cX9_leastBranchFrom 33 = .ok (.iload 4, 2) := by decide +kernel
theorem dX9_leastBranchFrom_35 : decode cX9_leastBranchFrom 35 = .ok (.iaload, 1) := by decide +kernel
theorem dX9_leastBranchFrom_36 : decode cX9_leastBranchFrom 36 = .ok (.iload_n 3, 1) := by decide +kernel
theorem dX9_leastBranchFrom_37 : decode cX9_leastBranchFrom 37 = .ok (.if_icmp .ge 11, 3) := by decide +kernel
theorem dX9_leastBranchFrom_40 : decode cX9_leastBranchFrom 40 = .ok (.aload_n 0, 1) := by decide +kernel
theorem dX9_leastBranchFrom_41 : decode cX9_leastBranchFrom 41 = .ok (.getfield 24, 3) := by decide +kernel
theorem dX9_leastBranchFrom_44 : decode cX9_leastBranchFrom 44 = .ok (.iload 4, 2) := by decide +kernel
theorem dX9_leastBranchFrom_46 : decode cX9_leastBranchFrom 46 = .ok (.iaload, 1) := by decide +kernel
theorem dX9_leastBranchFrom_47 : decode cX9_leastBranchFrom 47 = .ok (.istore_n 3, 1) := by decide +kernel
theorem dX9_leastBranchFrom_48 : decode cX9_leastBranchFrom 48 = .ok (.iinc 4 1, 3) := by decide +kernel
theorem dX9_leastBranchFrom_51 : decode cX9_leastBranchFrom 51 = .ok (.goto (-46), 3) := by decide +kernel
theorem dX9_leastBranchFrom_54 : decode cX9_leastBranchFrom 54 = .ok (.iload_n 3, 1) := by decide +kernel
theorem dX9_leastBranchFrom_55 : decode cX9_leastBranchFrom 55 = .ok (.ireturn, 1) := by decide +kernel
theorem dX9_findCrowns_0 : decode cX9_findCrowns 0 = .ok (.iconst 0, 1) := by decide +kernel
theorem dX9_findCrowns_1 : decode cX9_findCrowns 1 = .ok (.istore_n 3, 1) := by decide +kernel
theorem dX9_findCrowns_2 : decode cX9_findCrowns 2 = .ok (.iload_n 3, 1) := by decide +kernel
theorem dX9_findCrowns_3 : decode cX9_findCrowns 3 = .ok (.aload_n 1, 1) := by decide +kernel
theorem dX9_findCrowns_4 : decode cX9_findCrowns 4 = .ok (.getfield 66, 3) := by decide +kernel
theorem dX9_findCrowns_7 : decode cX9_findCrowns 7 = .ok (.if_icmp .ge 65, 3) := by decide +kernel
theorem dX9_findCrowns_10 : decode cX9_findCrowns 10 = .ok (.aload_n 2, 1) := by decide +kernel
theorem dX9_findCrowns_11 : decode cX9_findCrowns 11 = .ok (.getfield 94, 3) := by decide +kernel
theorem dX9_findCrowns_14 : decode cX9_findCrowns 14 = .ok (.iload_n 3, 1) := by decide +kernel
theorem dX9_findCrowns_15 : decode cX9_findCrowns 15 = .ok (.iaload, 1) := by decide +kernel
theorem dX9_findCrowns_16 : decode cX9_findCrowns 16 = .ok (.istore 4, 2) := by decide +kernel
theorem dX9_findCrowns_18 : decode cX9_findCrowns 18 = .ok (.aload_n 0, 1) := by decide +kernel
theorem dX9_findCrowns_19 : decode cX9_findCrowns 19 = .ok (.getfield 21, 3) := by decide +kernel
theorem dX9_findCrowns_22 : decode cX9_findCrowns 22 = .ok (.iload 4, 2) := by decide +kernel
theorem dX9_findCrowns_24 : decode cX9_findCrowns 24 = .ok (.iaload, 1) := by decide +kernel
theorem dX9_findCrowns_25 : decode cX9_findCrowns 25 = .ok (.iconst (-1), 1) := by decide +kernel
theorem dX9_findCrowns_26 : decode cX9_findCrowns 26 = .ok (.if_icmp .ne 7, 3) := by decide +kernel
theorem dX9_findCrowns_29 : decode cX9_findCrowns 29 = .ok (.iconst 0, 1) := by decide +kernel
theorem dX9_findCrowns_30 : decode cX9_findCrowns 30 = .ok (.goto 15, 3) := by decide +kernel
theorem dX9_findCrowns_33 : decode cX9_findCrowns 33 = .ok (.aload_n 0, 1) := by decide +kernel
theorem dX9_findCrowns_34 : decode cX9_findCrowns 34 = .ok (.getfield 27, 3) := by decide +kernel
theorem dX9_findCrowns_37 : decode cX9_findCrowns 37 = .ok (.aload_n 0, 1) := by decide +kernel
theorem dX9_findCrowns_38 : decode cX9_findCrowns 38 = .ok (.getfield 21, 3) := by decide +kernel
theorem dX9_findCrowns_41 : decode cX9_findCrowns 41 = .ok (.iload 4, 2) := by decide +kernel
theorem dX9_findCrowns_43 : decode cX9_findCrowns 43 = .ok (.iaload, 1) := by decide +kernel
theorem dX9_findCrowns_44 : decode cX9_findCrowns 44 = .ok (.iaload, 1) := by decide +kernel
theorem dX9_findCrowns_45 : decode cX9_findCrowns 45 = .ok (.istore 5, 2) := by decide +kernel
theorem dX9_findCrowns_47 : decode cX9_findCrowns 47 = .ok (.aload_n 0, 1) := by decide +kernel
theorem dX9_findCrowns_48 : decode cX9_findCrowns 48 = .ok (.getfield 27, 3) := by decide +kernel
theorem dX9_findCrowns_51 : decode cX9_findCrowns 51 = .ok (.iload 4, 2) := by decide +kernel
theorem dX9_findCrowns_53 : decode cX9_findCrowns 53 = .ok (.aload_n 2, 1) := by decide +kernel
theorem dX9_findCrowns_54 : decode cX9_findCrowns 54 = .ok (.getfield 101, 3) := by decide +kernel
theorem dX9_findCrowns_57 : decode cX9_findCrowns 57 = .ok (.iload 4, 2) := by decide +kernel
theorem dX9_findCrowns_59 : decode cX9_findCrowns 59 = .ok (.iaload, 1) := by decide +kernel
theorem dX9_findCrowns_60 : decode cX9_findCrowns 60 = .ok (.iload 5, 2) := by decide +kernel
theorem dX9_findCrowns_62 : decode cX9_findCrowns 62 = .ok (.invokestatic 104, 3) := by decide +kernel
theorem dX9_findCrowns_65 : decode cX9_findCrowns 65 = .ok (.iastore, 1) := by decide +kernel
theorem dX9_findCrowns_66 : decode cX9_findCrowns 66 = .ok (.iinc 3 1, 3) := by decide +kernel
theorem dX9_findCrowns_69 : decode cX9_findCrowns 69 = .ok (.goto (-67), 3) := by decide +kernel
theorem dX9_findCrowns_72 : decode cX9_findCrowns 72 = .ok (.aload_n 1, 1) := by decide +kernel
theorem dX9_findCrowns_73 : decode cX9_findCrowns 73 = .ok (.getfield 66, 3) := by decide +kernel
theorem dX9_findCrowns_76 : decode cX9_findCrowns 76 = .ok (.iconst 1, 1) := by decide +kernel
theorem dX9_findCrowns_77 : decode cX9_findCrowns 77 = .ok (.isub, 1) := by decide +kernel
theorem dX9_findCrowns_78 : decode cX9_findCrowns 78 = .ok (.istore_n 3, 1) := by decide +kernel
theorem dX9_findCrowns_79 : decode cX9_findCrowns 79 = .ok (.iload_n 3, 1) := by decide +kernel
theorem dX9_findCrowns_80 : decode cX9_findCrowns 80 = .ok (.ifCond .lt 47, 3) := by decide +kernel
theorem dX9_findCrowns_83 : decode cX9_findCrowns 83 = .ok (.aload_n 2, 1) := by decide +kernel
theorem dX9_findCrowns_84 : decode cX9_findCrowns 84 = .ok (.getfield 94, 3) := by decide +kernel
theorem dX9_findCrowns_87 : decode cX9_findCrowns 87 = .ok (.iload_n 3, 1) := by decide +kernel
theorem dX9_findCrowns_88 : decode cX9_findCrowns 88 = .ok (.iaload, 1) := by decide +kernel
theorem dX9_findCrowns_89 : decode cX9_findCrowns 89 = .ok (.istore 4, 2) := by decide +kernel
theorem dX9_findCrowns_91 : decode cX9_findCrowns 91 = .ok (.aload_n 0, 1) := by decide +kernel
theorem dX9_findCrowns_92 : decode cX9_findCrowns 92 = .ok (.getfield 18, 3) := by decide +kernel
theorem dX9_findCrowns_95 : decode cX9_findCrowns 95 = .ok (.iload 4, 2) := by decide +kernel
theorem dX9_findCrowns_97 : decode cX9_findCrowns 97 = .ok (.iaload, 1) := by decide +kernel
theorem dX9_findCrowns_98 : decode cX9_findCrowns 98 = .ok (.iconst (-1), 1) := by decide +kernel
theorem dX9_findCrowns_99 : decode cX9_findCrowns 99 = .ok (.if_icmp .eq 22, 3) := by decide +kernel
theorem dX9_findCrowns_102 : decode cX9_findCrowns 102 = .ok (.aload_n 0, 1) := by decide +kernel
theorem dX9_findCrowns_103 : decode cX9_findCrowns 103 = .ok (.getfield 27, 3) := by decide +kernel
theorem dX9_findCrowns_106 : decode cX9_findCrowns 106 = .ok (.iload 4, 2) := by decide +kernel
theorem dX9_findCrowns_108 : decode cX9_findCrowns 108 = .ok (.aload_n 0, 1) := by decide +kernel
theorem dX9_findCrowns_109 : decode cX9_findCrowns 109 = .ok (.getfield 27, 3) := by decide +kernel
theorem dX9_findCrowns_112 : decode cX9_findCrowns 112 = .ok (.aload_n 0, 1) := by decide +kernel
theorem dX9_findCrowns_113 : decode cX9_findCrowns 113 = .ok (.getfield 18, 3) := by decide +kernel
theorem dX9_findCrowns_116 : decode cX9_findCrowns 116 = .ok (.iload 4, 2) := by decide +kernel
theorem dX9_findCrowns_118 : decode cX9_findCrowns 118 = .ok (.iaload, 1) := by decide +kernel
theorem dX9_findCrowns_119 : decode cX9_findCrowns 119 = .ok (.iaload, 1) := by decide +kernel
theorem dX9_findCrowns_120 : decode cX9_findCrowns 120 = .ok (.iastore, 1) := by decide +kernel
theorem dX9_findCrowns_121 : decode cX9_findCrowns 121 = .ok (.iinc 3 (-1), 3) := by decide +kernel
theorem dX9_findCrowns_124 : decode cX9_findCrowns 124 = .ok (.goto (-45), 3) := by decide +kernel
theorem dX9_findCrowns_127 : decode cX9_findCrowns 127 = .ok (.return_, 1) := by decide +kernel
theorem dX9_topOf_0 : decode cX9_topOf 0 = .ok (.iload_n 1, 1) := by decide +kernel
theorem dX9_topOf_1 : decode cX9_topOf 1 = .ok (.istore_n 2, 1) := by decide +kernel
theorem dX9_topOf_2 : decode cX9_topOf 2 = .ok (.iconst 0, 1) := by decide +kernel
theorem dX9_topOf_3 : decode cX9_topOf 3 = .ok (.istore_n 3, 1) := by decide +kernel
theorem dX9_topOf_4 : decode cX9_topOf 4 = .ok (.iload_n 3, 1) := by decide +kernel
theorem dX9_topOf_5 : decode cX9_topOf 5 = .ok (.bipush 30, 2) := by decide +kernel
theorem dX9_topOf_7 : decode cX9_topOf 7 = .ok (.if_icmp .ge 26, 3) := by decide +kernel
theorem dX9_topOf_10 : decode cX9_topOf 10 = .ok (.aload_n 0, 1) := by decide +kernel
theorem dX9_topOf_11 : decode cX9_topOf 11 = .ok (.getfield 21, 3) := by decide +kernel
theorem dX9_topOf_14 : decode cX9_topOf 14 = .ok (.iload_n 2, 1) := by decide +kernel
theorem dX9_topOf_15 : decode cX9_topOf 15 = .ok (.iaload, 1) := by decide +kernel
theorem dX9_topOf_16 : decode cX9_topOf 16 = .ok (.iconst (-1), 1) := by decide +kernel
theorem dX9_topOf_17 : decode cX9_topOf 17 = .ok (.if_icmp .eq 16, 3) := by decide +kernel
theorem dX9_topOf_20 : decode cX9_topOf 20 = .ok (.aload_n 0, 1) := by decide +kernel
theorem dX9_topOf_21 : decode cX9_topOf 21 = .ok (.getfield 21, 3) := by decide +kernel
theorem dX9_topOf_24 : decode cX9_topOf 24 = .ok (.iload_n 2, 1) := by decide +kernel
theorem dX9_topOf_25 : decode cX9_topOf 25 = .ok (.iaload, 1) := by decide +kernel
theorem dX9_topOf_26 : decode cX9_topOf 26 = .ok (.istore_n 2, 1) := by decide +kernel
theorem dX9_topOf_27 : decode cX9_topOf 27 = .ok (.iinc 3 1, 3) := by decide +kernel
theorem dX9_topOf_30 : decode cX9_topOf 30 = .ok (.goto (-26), 3) := by decide +kernel
theorem dX9_topOf_33 : decode cX9_topOf 33 = .ok (.iload_n 2, 1) := by decide +kernel
theorem dX9_topOf_34 : decode cX9_topOf 34 = .ok (.ireturn, 1) := by decide +kernel
theorem dX9_howMany_0 : decode cX9_howMany 0 = .ok (.iconst 1, 1) := by decide +kernel
theorem dX9_howMany_1 : decode cX9_howMany 1 = .ok (.istore_n 2, 1) := by decide +kernel
theorem dX9_howMany_2 : decode cX9_howMany 2 = .ok (.iload_n 1, 1) := by decide +kernel
theorem dX9_howMany_3 : decode cX9_howMany 3 = .ok (.istore_n 3, 1) := by decide +kernel
theorem dX9_howMany_4 : decode cX9_howMany 4 = .ok (.iconst 0, 1) := by decide +kernel
theorem dX9_howMany_5 : decode cX9_howMany 5 = .ok (.istore 4, 2) := by decide +kernel
theorem dX9_howMany_7 : decode cX9_howMany 7 = .ok (.iload 4, 2) := by decide +kernel
theorem dX9_howMany_9 : decode cX9_howMany 9 = .ok (.bipush 30, 2) := by decide +kernel
theorem dX9_howMany_11 : decode cX9_howMany 11 = .ok (.if_icmp .ge 29, 3) := by decide +kernel
theorem dX9_howMany_14 : decode cX9_howMany 14 = .ok (.aload_n 0, 1) := by decide +kernel
theorem dX9_howMany_15 : decode cX9_howMany 15 = .ok (.getfield 18, 3) := by decide +kernel
theorem dX9_howMany_18 : decode cX9_howMany 18 = .ok (.iload_n 3, 1) := by decide +kernel
theorem dX9_howMany_19 : decode cX9_howMany 19 = .ok (.iaload, 1) := by decide +kernel
theorem dX9_howMany_20 : decode cX9_howMany 20 = .ok (.iconst (-1), 1) := by decide +kernel
theorem dX9_howMany_21 : decode cX9_howMany 21 = .ok (.if_icmp .eq 19, 3) := by decide +kernel
theorem dX9_howMany_24 : decode cX9_howMany 24 = .ok (.aload_n 0, 1) := by decide +kernel
theorem dX9_howMany_25 : decode cX9_howMany 25 = .ok (.getfield 18, 3) := by decide +kernel
theorem dX9_howMany_28 : decode cX9_howMany 28 = .ok (.iload_n 3, 1) := by decide +kernel
theorem dX9_howMany_29 : decode cX9_howMany 29 = .ok (.iaload, 1) := by decide +kernel
theorem dX9_howMany_30 : decode cX9_howMany 30 = .ok (.istore_n 3, 1) := by decide +kernel
theorem dX9_howMany_31 : decode cX9_howMany 31 = .ok (.iinc 2 1, 3) := by decide +kernel
theorem dX9_howMany_34 : decode cX9_howMany 34 = .ok (.iinc 4 1, 3) := by decide +kernel
theorem dX9_howMany_37 : decode cX9_howMany 37 = .ok (.goto (-30), 3) := by decide +kernel
theorem dX9_howMany_40 : decode cX9_howMany 40 = .ok (.iload_n 2, 1) := by decide +kernel
theorem dX9_howMany_41 : decode cX9_howMany 41 = .ok (.ireturn, 1) := by decide +kernel
theorem dX9_nth_0 : decode cX9_nth 0 = .ok (.iload_n 2, 1) := by decide +kernel
theorem dX9_nth_1 : decode cX9_nth 1 = .ok (.ifCond .ge 5, 3) := by decide +kernel
theorem dX9_nth_4 : decode cX9_nth 4 = .ok (.iconst (-1), 1) := by decide +kernel
theorem dX9_nth_5 : decode cX9_nth 5 = .ok (.ireturn, 1) := by decide +kernel
theorem dX9_nth_6 : decode cX9_nth 6 = .ok (.iload_n 1, 1) := by decide +kernel
theorem dX9_nth_7 : decode cX9_nth 7 = .ok (.istore_n 3, 1) := by decide +kernel
theorem dX9_nth_8 : decode cX9_nth 8 = .ok (.iconst 0, 1) := by decide +kernel
theorem dX9_nth_9 : decode cX9_nth 9 = .ok (.istore 4, 2) := by decide +kernel
theorem dX9_nth_11 : decode cX9_nth 11 = .ok (.iload 4, 2) := by decide +kernel
theorem dX9_nth_13 : decode cX9_nth 13 = .ok (.iload_n 2, 1) := by decide +kernel
theorem dX9_nth_14 : decode cX9_nth 14 = .ok (.if_icmp .ge 21, 3) := by decide +kernel
theorem dX9_nth_17 : decode cX9_nth 17 = .ok (.iload_n 3, 1) := by decide +kernel
theorem dX9_nth_18 : decode cX9_nth 18 = .ok (.iconst (-1), 1) := by decide +kernel
theorem dX9_nth_19 : decode cX9_nth 19 = .ok (.if_icmp .eq 16, 3) := by decide +kernel
theorem dX9_nth_22 : decode cX9_nth 22 = .ok (.aload_n 0, 1) := by decide +kernel
theorem dX9_nth_23 : decode cX9_nth 23 = .ok (.getfield 18, 3) := by decide +kernel
theorem dX9_nth_26 : decode cX9_nth 26 = .ok (.iload_n 3, 1) := by decide +kernel
theorem dX9_nth_27 : decode cX9_nth 27 = .ok (.iaload, 1) := by decide +kernel
theorem dX9_nth_28 : decode cX9_nth 28 = .ok (.istore_n 3, 1) := by decide +kernel
theorem dX9_nth_29 : decode cX9_nth 29 = .ok (.iinc 4 1, 3) := by decide +kernel
theorem dX9_nth_32 : decode cX9_nth 32 = .ok (.goto (-21), 3) := by decide +kernel
theorem dX9_nth_35 : decode cX9_nth 35 = .ok (.iload_n 3, 1) := by decide +kernel
theorem dX9_nth_36 : decode cX9_nth 36 = .ok (.ireturn, 1) := by decide +kernel
theorem dX9_lengthOf_0 : decode cX9_lengthOf 0 = .ok (.iconst 0, 1) := by decide +kernel
theorem dX9_lengthOf_1 : decode cX9_lengthOf 1 = .ok (.istore_n 3, 1) := by decide +kernel
theorem dX9_lengthOf_2 : decode cX9_lengthOf 2 = .ok (.iload_n 2, 1) := by decide +kernel
theorem dX9_lengthOf_3 : decode cX9_lengthOf 3 = .ok (.istore 4, 2) := by decide +kernel
theorem dX9_lengthOf_5 : decode cX9_lengthOf 5 = .ok (.iconst 0, 1) := by decide +kernel
theorem dX9_lengthOf_6 : decode cX9_lengthOf 6 = .ok (.istore 5, 2) := by decide +kernel
theorem dX9_lengthOf_8 : decode cX9_lengthOf 8 = .ok (.iload 5, 2) := by decide +kernel
theorem dX9_lengthOf_10 : decode cX9_lengthOf 10 = .ok (.bipush 30, 2) := by decide +kernel
theorem dX9_lengthOf_12 : decode cX9_lengthOf 12 = .ok (.if_icmp .ge 34, 3) := by decide +kernel
theorem dX9_lengthOf_15 : decode cX9_lengthOf 15 = .ok (.iload 4, 2) := by decide +kernel
theorem dX9_lengthOf_17 : decode cX9_lengthOf 17 = .ok (.iconst (-1), 1) := by decide +kernel
theorem dX9_lengthOf_18 : decode cX9_lengthOf 18 = .ok (.if_icmp .eq 28, 3) := by decide +kernel
theorem dX9_lengthOf_21 : decode cX9_lengthOf 21 = .ok (.iload_n 3, 1) := by decide +kernel
theorem dX9_lengthOf_22 : decode cX9_lengthOf 22 = .ok (.aload_n 1, 1) := by decide +kernel
theorem dX9_lengthOf_23 : decode cX9_lengthOf 23 = .ok (.getfield 82, 3) := by decide +kernel
theorem dX9_lengthOf_26 : decode cX9_lengthOf 26 = .ok (.iload 4, 2) := by decide +kernel
theorem dX9_lengthOf_28 : decode cX9_lengthOf 28 = .ok (.iaload, 1) := by decide +kernel
theorem dX9_lengthOf_29 : decode cX9_lengthOf 29 = .ok (.iadd, 1) := by decide +kernel
theorem dX9_lengthOf_30 : decode cX9_lengthOf 30 = .ok (.istore_n 3, 1) := by decide +kernel
theorem dX9_lengthOf_31 : decode cX9_lengthOf 31 = .ok (.aload_n 0, 1) := by decide +kernel
theorem dX9_lengthOf_32 : decode cX9_lengthOf 32 = .ok (.getfield 18, 3) := by decide +kernel
theorem dX9_lengthOf_35 : decode cX9_lengthOf 35 = .ok (.iload 4, 2) := by decide +kernel
theorem dX9_lengthOf_37 : decode cX9_lengthOf 37 = .ok (.iaload, 1) := by decide +kernel
theorem dX9_lengthOf_38 : decode cX9_lengthOf 38 = .ok (.istore 4, 2) := by decide +kernel
theorem dX9_lengthOf_40 : decode cX9_lengthOf 40 = .ok (.iinc 5 1, 3) := by decide +kernel
theorem dX9_lengthOf_43 : decode cX9_lengthOf 43 = .ok (.goto (-35), 3) := by decide +kernel
theorem dX9_lengthOf_46 : decode cX9_lengthOf 46 = .ok (.iload_n 3, 1) := by decide +kernel
theorem dX9_lengthOf_47 : decode cX9_lengthOf 47 = .ok (.ireturn, 1) := by decide +kernel
theorem dX9_howManyStems_0 : decode cX9_howManyStems 0 = .ok (.iconst 0, 1) := by decide +kernel
theorem dX9_howManyStems_1 : decode cX9_howManyStems 1 = .ok (.istore_n 2, 1) := by decide +kernel
theorem dX9_howManyStems_2 : decode cX9_howManyStems 2 = .ok (.iconst 0, 1) := by decide +kernel
theorem dX9_howManyStems_3 : decode cX9_howManyStems 3 = .ok (.istore_n 3, 1) := by decide +kernel
theorem dX9_howManyStems_4 : decode cX9_howManyStems 4 = .ok (.iload_n 3, 1) := by decide +kernel
theorem dX9_howManyStems_5 : decode cX9_howManyStems 5 = .ok (.aload_n 1, 1) := by decide +kernel
theorem dX9_howManyStems_6 : decode cX9_howManyStems 6 = .ok (.getfield 66, 3) := by decide +kernel
theorem dX9_howManyStems_9 : decode cX9_howManyStems 9 = .ok (.if_icmp .ge 22, 3) := by decide +kernel
theorem dX9_howManyStems_12 : decode cX9_howManyStems 12 = .ok (.aload_n 0, 1) := by decide +kernel
theorem dX9_howManyStems_13 : decode cX9_howManyStems 13 = .ok (.getfield 21, 3) := by decide +kernel
theorem dX9_howManyStems_16 : decode cX9_howManyStems 16 = .ok (.iload_n 3, 1) := by decide +kernel
theorem dX9_howManyStems_17 : decode cX9_howManyStems 17 = .ok (.iaload, 1) := by decide +kernel
theorem dX9_howManyStems_18 : decode cX9_howManyStems 18 = .ok (.iconst (-1), 1) := by decide +kernel
theorem dX9_howManyStems_19 : decode cX9_howManyStems 19 = .ok (.if_icmp .ne 6, 3) := by decide +kernel
theorem dX9_howManyStems_22 : decode cX9_howManyStems 22 = .ok (.iinc 2 1, 3) := by decide +kernel
theorem dX9_howManyStems_25 : decode cX9_howManyStems 25 = .ok (.iinc 3 1, 3) := by decide +kernel
theorem dX9_howManyStems_28 : decode cX9_howManyStems 28 = .ok (.goto (-24), 3) := by decide +kernel
theorem dX9_howManyStems_31 : decode cX9_howManyStems 31 = .ok (.iload_n 2, 1) := by decide +kernel
theorem dX9_howManyStems_32 : decode cX9_howManyStems 32 = .ok (.ireturn, 1) := by decide +kernel
theorem dX9_longest_0 : decode cX9_longest 0 = .ok (.iconst (-1), 1) := by decide +kernel
theorem dX9_longest_1 : decode cX9_longest 1 = .ok (.istore_n 2, 1) := by decide +kernel
theorem dX9_longest_2 : decode cX9_longest 2 = .ok (.iconst 0, 1) := by decide +kernel
theorem dX9_longest_3 : decode cX9_longest 3 = .ok (.istore_n 3, 1) := by decide +kernel
theorem dX9_longest_4 : decode cX9_longest 4 = .ok (.iconst 0, 1) := by decide +kernel
theorem dX9_longest_5 : decode cX9_longest 5 = .ok (.istore 4, 2) := by decide +kernel
theorem dX9_longest_7 : decode cX9_longest 7 = .ok (.iload 4, 2) := by decide +kernel
theorem dX9_longest_9 : decode cX9_longest 9 = .ok (.aload_n 1, 1) := by decide +kernel
theorem dX9_longest_10 : decode cX9_longest 10 = .ok (.getfield 66, 3) := by decide +kernel
theorem dX9_longest_13 : decode cX9_longest 13 = .ok (.if_icmp .ge 45, 3) := by decide +kernel
theorem dX9_longest_16 : decode cX9_longest 16 = .ok (.aload_n 0, 1) := by decide +kernel
theorem dX9_longest_17 : decode cX9_longest 17 = .ok (.getfield 21, 3) := by decide +kernel
theorem dX9_longest_20 : decode cX9_longest 20 = .ok (.iload 4, 2) := by decide +kernel
theorem dX9_longest_22 : decode cX9_longest 22 = .ok (.iaload, 1) := by decide +kernel
theorem dX9_longest_23 : decode cX9_longest 23 = .ok (.iconst (-1), 1) := by decide +kernel
theorem dX9_longest_24 : decode cX9_longest 24 = .ok (.if_icmp .ne 13, 3) := by decide +kernel
theorem dX9_longest_27 : decode cX9_longest 27 = .ok (.aload_n 0, 1) := by decide +kernel
theorem dX9_longest_28 : decode cX9_longest 28 = .ok (.aload_n 1, 1) := by decide +kernel
theorem dX9_longest_29 : decode cX9_longest 29 = .ok (.iload 4, 2) := by decide +kernel
theorem dX9_longest_31 : decode cX9_longest 31 = .ok (.invokevirtual 110, 3) := by decide +kernel
theorem dX9_longest_34 : decode cX9_longest 34 = .ok (.goto 4, 3) := by decide +kernel
theorem dX9_longest_37 : decode cX9_longest 37 = .ok (.iconst 0, 1) := by decide +kernel
theorem dX9_longest_38 : decode cX9_longest 38 = .ok (.istore 5, 2) := by decide +kernel
theorem dX9_longest_40 : decode cX9_longest 40 = .ok (.iload 5, 2) := by decide +kernel
theorem dX9_longest_42 : decode cX9_longest 42 = .ok (.iload_n 3, 1) := by decide +kernel
theorem dX9_longest_43 : decode cX9_longest 43 = .ok (.if_icmp .le 9, 3) := by decide +kernel
theorem dX9_longest_46 : decode cX9_longest 46 = .ok (.iload 5, 2) := by decide +kernel
theorem dX9_longest_48 : decode cX9_longest 48 = .ok (.istore_n 3, 1) := by decide +kernel
theorem dX9_longest_49 : decode cX9_longest 49 = .ok (.iload 4, 2) := by decide +kernel
theorem dX9_longest_51 : decode cX9_longest 51 = .ok (.istore_n 2, 1) := by decide +kernel
theorem dX9_longest_52 : decode cX9_longest 52 = .ok (.iinc 4 1, 3) := by decide +kernel
theorem dX9_longest_55 : decode cX9_longest 55 = .ok (.goto (-48), 3) := by decide +kernel
theorem dX9_longest_58 : decode cX9_longest 58 = .ok (.iload_n 2, 1) := by decide +kernel
theorem dX9_longest_59 : decode cX9_longest 59 = .ok (.ireturn, 1) := by decide +kernel
theorem dX10_init_0 : decode cX10_init 0 = .ok (.aload_n 0, 1) := by decide +kernel
theorem dX10_init_1 : decode cX10_init 1 = .ok (.invokespecial 3, 3) := by decide +kernel
theorem dX10_init_4 : decode cX10_init 4 = .ok (.aload_n 0, 1) := by decide +kernel
theorem dX10_init_5 : decode cX10_init 5 = .ok (.sipush 1600, 3) := by decide +kernel
theorem dX10_init_8 : decode cX10_init 8 = .ok (.newarray .byte, 2) := by decide +kernel
theorem dX10_init_10 : decode cX10_init 10 = .ok (.putfield 9, 3) := by decide +kernel
theorem dX10_init_13 : decode cX10_init 13 = .ok (.return_, 1) := by decide +kernel
theorem dX10_hasRoom_0 : decode cX10_hasRoom 0 = .ok (.aload_n 0, 1) := by decide +kernel
theorem dX10_hasRoom_1 : decode cX10_hasRoom 1 = .ok (.getfield 15, 3) := by decide +kernel
theorem dX10_hasRoom_4 : decode cX10_hasRoom 4 = .ok (.bipush 20, 2) := by decide +kernel
theorem dX10_hasRoom_6 : decode cX10_hasRoom 6 = .ok (.iadd, 1) := by decide +kernel
theorem dX10_hasRoom_7 : decode cX10_hasRoom 7 = .ok (.sipush 1600, 3) := by decide +kernel
theorem dX10_hasRoom_10 : decode cX10_hasRoom 10 = .ok (.if_icmp .gt 7, 3) := by decide +kernel
theorem dX10_hasRoom_13 : decode cX10_hasRoom 13 = .ok (.iconst 1, 1) := by decide +kernel
theorem dX10_hasRoom_14 : decode cX10_hasRoom 14 = .ok (.goto 4, 3) := by decide +kernel
theorem dX10_hasRoom_17 : decode cX10_hasRoom 17 = .ok (.iconst 0, 1) := by decide +kernel
theorem dX10_hasRoom_18 : decode cX10_hasRoom 18 = .ok (.ireturn, 1) := by decide +kernel
theorem dX10_put_0 : decode cX10_put 0 = .ok (.bipush 24, 2) := by decide +kernel
theorem dX10_put_2 : decode cX10_put 2 = .ok (.istore_n 2, 1) := by decide +kernel
theorem dX10_put_3 : decode cX10_put 3 = .ok (.iload_n 2, 1) := by decide +kernel
theorem dX10_put_4 : decode cX10_put 4 = .ok (.ifCond .lt 42, 3) := by decide +kernel
theorem dX10_put_7 : decode cX10_put 7 = .ok (.aload_n 0, 1) := by decide +kernel
theorem dX10_put_8 : decode cX10_put 8 = .ok (.getfield 15, 3) := by decide +kernel
theorem dX10_put_11 : decode cX10_put 11 = .ok (.sipush 1600, 3) := by decide +kernel
theorem dX10_put_14 : decode cX10_put 14 = .ok (.if_icmp .ge 32, 3) := by decide +kernel
theorem dX10_put_17 : decode cX10_put 17 = .ok (.aload_n 0, 1) := by decide +kernel
theorem dX10_put_18 : decode cX10_put 18 = .ok (.getfield 9, 3) := by decide +kernel
theorem dX10_put_21 : decode cX10_put 21 = .ok (.aload_n 0, 1) := by decide +kernel
theorem dX10_put_22 : decode cX10_put 22 = .ok (.getfield 15, 3) := by decide +kernel
theorem dX10_put_25 : decode cX10_put 25 = .ok (.iload_n 1, 1) := by decide +kernel
theorem dX10_put_26 : decode cX10_put 26 = .ok (.iload_n 2, 1) := by decide +kernel
theorem dX10_put_27 : decode cX10_put 27 = .ok (.ishr, 1) := by decide +kernel
theorem dX10_put_28 : decode cX10_put 28 = .ok (.i2b, 1) := by decide +kernel
theorem dX10_put_29 : decode cX10_put 29 = .ok (.bastore, 1) := by decide +kernel
theorem dX10_put_30 : decode cX10_put 30 = .ok (.aload_n 0, 1) := by decide +kernel
theorem dX10_put_31 : decode cX10_put 31 = .ok (.dup, 1) := by decide +kernel
theorem dX10_put_32 : decode cX10_put 32 = .ok (.getfield 15, 3) := by decide +kernel
theorem dX10_put_35 : decode cX10_put 35 = .ok (.iconst 1, 1) := by decide +kernel
theorem dX10_put_36 : decode cX10_put 36 = .ok (.iadd, 1) := by decide +kernel
theorem dX10_put_37 : decode cX10_put 37 = .ok (.putfield 15, 3) := by decide +kernel
theorem dX10_put_40 : decode cX10_put 40 = .ok (.iinc 2 (-8), 3) := by decide +kernel
theorem dX10_put_43 : decode cX10_put 43 = .ok (.goto (-40), 3) := by decide +kernel
theorem dX10_put_46 : decode cX10_put 46 = .ok (.return_, 1) := by decide +kernel
theorem dX10_at_0 : decode cX10_at 0 = .ok (.iload_n 1, 1) := by decide +kernel
theorem dX10_at_1 : decode cX10_at 1 = .ok (.ifCond .lt 24, 3) := by decide +kernel
theorem dX10_at_4 : decode cX10_at 4 = .ok (.iload_n 1, 1) := by decide +kernel
theorem dX10_at_5 : decode cX10_at 5 = .ok (.aload_n 0, 1) := by decide +kernel
theorem dX10_at_6 : decode cX10_at 6 = .ok (.getfield 15, 3) := by decide +kernel
theorem dX10_at_9 : decode cX10_at 9 = .ok (.if_icmp .ge 16, 3) := by decide +kernel
theorem dX10_at_12 : decode cX10_at 12 = .ok (.aload_n 0, 1) := by decide +kernel
theorem dX10_at_13 : decode cX10_at 13 = .ok (.getfield 9, 3) := by decide +kernel
theorem dX10_at_16 : decode cX10_at 16 = .ok (.iload_n 1, 1) := by decide +kernel
theorem dX10_at_17 : decode cX10_at 17 = .ok (.baload, 1) := by decide +kernel
theorem dX10_at_18 : decode cX10_at 18 = .ok (.sipush 255, 3) := by decide +kernel
theorem dX10_at_21 : decode cX10_at 21 = .ok (.iand, 1) := by decide +kernel
theorem dX10_at_22 : decode cX10_at 22 = .ok (.goto 4, 3) := by decide +kernel
theorem dX10_at_25 : decode cX10_at 25 = .ok (.iconst (-1), 1) := by decide +kernel
theorem dX10_at_26 : decode cX10_at 26 = .ok (.ireturn, 1) := by decide +kernel
theorem dX11_init_0 : decode cX11_init 0 = .ok (.aload_n 0, 1) := by decide +kernel
theorem dX11_init_1 : decode cX11_init 1 = .ok (.invokespecial 1, 3) := by decide +kernel
theorem dX11_init_4 : decode cX11_init 4 = .ok (.aload_n 0, 1) := by decide +kernel
theorem dX11_init_5 : decode cX11_init 5 = .ok (.new 7, 3) := by decide +kernel
theorem dX11_init_8 : decode cX11_init 8 = .ok (.dup, 1) := by decide +kernel
theorem dX11_init_9 : decode cX11_init 9 = .ok (.invokespecial 9, 3) := by decide +kernel
theorem dX11_init_12 : decode cX11_init 12 = .ok (.putfield 10, 3) := by decide +kernel
theorem dX11_init_15 : decode cX11_init 15 = .ok (.aload_n 0, 1) := by decide +kernel
theorem dX11_init_16 : decode cX11_init 16 = .ok (.new 16, 3) := by decide +kernel
theorem dX11_init_19 : decode cX11_init 19 = .ok (.dup, 1) := by decide +kernel
theorem dX11_init_20 : decode cX11_init 20 = .ok (.aload_n 0, 1) := by decide +kernel
theorem dX11_init_21 : decode cX11_init 21 = .ok (.getfield 10, 3) := by decide +kernel
theorem dX11_init_24 : decode cX11_init 24 = .ok (.invokespecial 18, 3) := by decide +kernel
theorem dX11_init_27 : decode cX11_init 27 = .ok (.putfield 21, 3) := by decide +kernel
theorem dX11_init_30 : decode cX11_init 30 = .ok (.aload_n 0, 1) := by decide +kernel
theorem dX11_init_31 : decode cX11_init 31 = .ok (.new 25, 3) := by decide +kernel
theorem dX11_init_34 : decode cX11_init 34 = .ok (.dup, 1) := by decide +kernel
theorem dX11_init_35 : decode cX11_init 35 = .ok (.invokespecial 27, 3) := by decide +kernel
theorem dX11_init_38 : decode cX11_init 38 = .ok (.putfield 28, 3) := by decide +kernel
theorem dX11_init_41 : decode cX11_init 41 = .ok (.aload_n 0, 1) := by decide +kernel
theorem dX11_init_42 : decode cX11_init 42 = .ok (.bipush 20, 2) := by decide +kernel
theorem dX11_init_44 : decode cX11_init 44 = .ok (.newarray .int, 2) := by decide +kernel
theorem dX11_init_46 : decode cX11_init 46 = .ok (.putfield 32, 3) := by decide +kernel
theorem dX11_init_49 : decode cX11_init 49 = .ok (.aload_n 0, 1) := by decide +kernel
theorem dX11_init_50 : decode cX11_init 50 = .ok (.bipush 10, 2) := by decide +kernel
theorem dX11_init_52 : decode cX11_init 52 = .ok (.newarray .int, 2) := by decide +kernel
theorem dX11_init_54 : decode cX11_init 54 = .ok (.putfield 36, 3) := by decide +kernel
theorem dX11_init_57 : decode cX11_init 57 = .ok (.aload_n 0, 1) := by decide +kernel
theorem dX11_init_58 : decode cX11_init 58 = .ok (.new 39, 3) := by decide +kernel
theorem dX11_init_61 : decode cX11_init 61 = .ok (.dup, 1) := by decide +kernel
theorem dX11_init_62 : decode cX11_init 62 = .ok (.invokespecial 41, 3) := by decide +kernel
theorem dX11_init_65 : decode cX11_init 65 = .ok (.putfield 42, 3) := by decide +kernel
theorem dX11_init_68 : decode cX11_init 68 = .ok (.aload_n 0, 1) := by decide +kernel
theorem dX11_init_69 : decode cX11_init 69 = .ok (.iconst 3, 1) := by decide +kernel
theorem dX11_init_70 : decode cX11_init 70 = .ok (.anewarray 46, 3) := by decide +kernel
theorem dX11_init_73 : decode cX11_init 73 = .ok (.dup, 1) := by decide +kernel
theorem dX11_init_74 : decode cX11_init 74 = .ok (.iconst 0, 1) := by decide +kernel
theorem dX11_init_75 : decode cX11_init 75 = .ok (.new 46, 3) := by decide +kernel
theorem dX11_init_78 : decode cX11_init 78 = .ok (.dup, 1) := by decide +kernel
theorem dX11_init_79 : decode cX11_init 79 = .ok (.invokespecial 48, 3) := by decide +kernel
theorem dX11_init_82 : decode cX11_init 82 = .ok (.aastore, 1) := by decide +kernel
theorem dX11_init_83 : decode cX11_init 83 = .ok (.dup, 1) := by decide +kernel
theorem dX11_init_84 : decode cX11_init 84 = .ok (.iconst 1, 1) := by decide +kernel
theorem dX11_init_85 : decode cX11_init 85 = .ok (.new 46, 3) := by decide +kernel
theorem dX11_init_88 : decode cX11_init 88 = .ok (.dup, 1) := by decide +kernel
theorem dX11_init_89 : decode cX11_init 89 = .ok (.invokespecial 48, 3) := by decide +kernel
theorem dX11_init_92 : decode cX11_init 92 = .ok (.aastore, 1) := by decide +kernel
theorem dX11_init_93 : decode cX11_init 93 = .ok (.dup, 1) := by decide +kernel
theorem dX11_init_94 : decode cX11_init 94 = .ok (.iconst 2, 1) := by decide +kernel
theorem dX11_init_95 : decode cX11_init 95 = .ok (.new 46, 3) := by decide +kernel
theorem dX11_init_98 : decode cX11_init 98 = .ok (.dup, 1) := by decide +kernel
theorem dX11_init_99 : decode cX11_init 99 = .ok (.invokespecial 48, 3) := by decide +kernel
theorem dX11_init_102 : decode cX11_init 102 = .ok (.aastore, 1) := by decide +kernel
theorem dX11_init_103 : decode cX11_init 103 = .ok (.putfield 49, 3) := by decide +kernel
theorem dX11_init_106 : decode cX11_init 106 = .ok (.aload_n 0, 1) := by decide +kernel
theorem dX11_init_107 : decode cX11_init 107 = .ok (.new 53, 3) := by decide +kernel
theorem dX11_init_110 : decode cX11_init 110 = .ok (.dup, 1) := by decide +kernel
theorem dX11_init_111 : decode cX11_init 111 = .ok (.invokespecial 55, 3) := by decide +kernel
theorem dX11_init_114 : decode cX11_init 114 = .ok (.putfield 56, 3) := by decide +kernel
theorem dX11_init_117 : decode cX11_init 117 = .ok (.aload_n 0, 1) := by decide +kernel
theorem dX11_init_118 : decode cX11_init 118 = .ok (.new 60, 3) := by decide +kernel
theorem dX11_init_121 : decode cX11_init 121 = .ok (.dup, 1) := by decide +kernel
theorem dX11_init_122 : decode cX11_init 122 = .ok (.invokespecial 62, 3) := by decide +kernel
theorem dX11_init_125 : decode cX11_init 125 = .ok (.putfield 63, 3) := by decide +kernel
theorem dX11_init_128 : decode cX11_init 128 = .ok (.aload_n 0, 1) := by decide +kernel
theorem dX11_init_129 : decode cX11_init 129 = .ok (.new 67, 3) := by decide +kernel
theorem dX11_init_132 : decode cX11_init 132 = .ok (.dup, 1) := by decide +kernel
theorem dX11_init_133 : decode cX11_init 133 = .ok (.invokespecial 69, 3) := by decide +kernel
theorem dX11_init_136 : decode cX11_init 136 = .ok (.putfield 70, 3) := by decide +kernel
theorem dX11_init_139 : decode cX11_init 139 = .ok (.aload_n 0, 1) := by decide +kernel
theorem dX11_init_140 : decode cX11_init 140 = .ok (.new 74, 3) := by decide +kernel
theorem dX11_init_143 : decode cX11_init 143 = .ok (.dup, 1) := by decide +kernel
theorem dX11_init_144 : decode cX11_init 144 = .ok (.invokespecial 76, 3) := by decide +kernel
theorem dX11_init_147 : decode cX11_init 147 = .ok (.putfield 77, 3) := by decide +kernel
theorem dX11_init_150 : decode cX11_init 150 = .ok (.aload_n 0, 1) := by decide +kernel
theorem dX11_init_151 : decode cX11_init 151 = .ok (.new 81, 3) := by decide +kernel
theorem dX11_init_154 : decode cX11_init 154 = .ok (.dup, 1) := by decide +kernel
theorem dX11_init_155 : decode cX11_init 155 = .ok (.invokespecial 83, 3) := by decide +kernel
theorem dX11_init_158 : decode cX11_init 158 = .ok (.putfield 84, 3) := by decide +kernel
theorem dX11_init_161 : decode cX11_init 161 = .ok (.aload_n 0, 1) := by decide +kernel
theorem dX11_init_162 : decode cX11_init 162 = .ok (.new 25, 3) := by decide +kernel
theorem dX11_init_165 : decode cX11_init 165 = .ok (.dup, 1) := by decide +kernel
theorem dX11_init_166 : decode cX11_init 166 = .ok (.invokespecial 27, 3) := by decide +kernel
theorem dX11_init_169 : decode cX11_init 169 = .ok (.putfield 88, 3) := by decide +kernel
theorem dX11_init_172 : decode cX11_init 172 = .ok (.aload_n 0, 1) := by decide +kernel
theorem dX11_init_173 : decode cX11_init 173 = .ok (.new 39, 3) := by decide +kernel
theorem dX11_init_176 : decode cX11_init 176 = .ok (.dup, 1) := by decide +kernel
theorem dX11_init_177 : decode cX11_init 177 = .ok (.invokespecial 41, 3) := by decide +kernel
theorem dX11_init_180 : decode cX11_init 180 = .ok (.putfield 91, 3) := by decide +kernel
theorem dX11_init_183 : decode cX11_init 183 = .ok (.aload_n 0, 1) := by decide +kernel
theorem dX11_init_184 : decode cX11_init 184 = .ok (.bipush 6, 2) := by decide +kernel
theorem dX11_init_186 : decode cX11_init 186 = .ok (.newarray .int, 2) := by decide +kernel
theorem dX11_init_188 : decode cX11_init 188 = .ok (.putfield 94, 3) := by decide +kernel
theorem dX11_init_191 : decode cX11_init 191 = .ok (.aload_n 0, 1) := by decide +kernel
theorem dX11_init_192 : decode cX11_init 192 = .ok (.iconst 1, 1) := by decide +kernel
theorem dX11_init_193 : decode cX11_init 193 = .ok (.putfield 97, 3) := by decide +kernel
theorem dX11_init_196 : decode cX11_init 196 = .ok (.return_, 1) := by decide +kernel
theorem dX11_feed_0 : decode cX11_feed 0 = .ok (.aload_n 0, 1) := by decide +kernel
theorem dX11_feed_1 : decode cX11_feed 1 = .ok (.getfield 10, 3) := by decide +kernel
theorem dX11_feed_4 : decode cX11_feed 4 = .ok (.invokevirtual 101, 3) := by decide +kernel
theorem dX11_feed_7 : decode cX11_feed 7 = .ok (.ifCond .ne 9, 3) := by decide +kernel
theorem dX11_feed_10 : decode cX11_feed 10 = .ok (.aload_n 0, 1) := by decide +kernel
theorem dX11_feed_11 : decode cX11_feed 11 = .ok (.iconst 0, 1) := by decide +kernel
theorem dX11_feed_12 : decode cX11_feed 12 = .ok (.invokevirtual 105, 3) := by decide +kernel
theorem dX11_feed_15 : decode cX11_feed 15 = .ok (.ireturn, 1) := by decide +kernel
theorem dX11_feed_16 : decode cX11_feed 16 = .ok (.aload_n 0, 1) := by decide +kernel
theorem dX11_feed_17 : decode cX11_feed 17 = .ok (.getfield 10, 3) := by decide +kernel
theorem dX11_feed_20 : decode cX11_feed 20 = .ok (.iload_n 1, 1) := by decide +kernel
theorem dX11_feed_21 : decode cX11_feed 21 = .ok (.invokevirtual 109, 3) := by decide +kernel
theorem dX11_feed_24 : decode cX11_feed 24 = .ok (.aload_n 0, 1) := by decide +kernel
theorem dX11_feed_25 : decode cX11_feed 25 = .ok (.getfield 10, 3) := by decide +kernel
theorem dX11_feed_28 : decode cX11_feed 28 = .ok (.iload_n 2, 1) := by decide +kernel
theorem dX11_feed_29 : decode cX11_feed 29 = .ok (.invokevirtual 109, 3) := by decide +kernel
theorem dX11_feed_32 : decode cX11_feed 32 = .ok (.aload_n 0, 1) := by decide +kernel
theorem dX11_feed_33 : decode cX11_feed 33 = .ok (.getfield 10, 3) := by decide +kernel
theorem dX11_feed_36 : decode cX11_feed 36 = .ok (.iload_n 3, 1) := by decide +kernel
theorem dX11_feed_37 : decode cX11_feed 37 = .ok (.invokevirtual 109, 3) := by decide +kernel
theorem dX11_feed_40 : decode cX11_feed 40 = .ok (.aload_n 0, 1) := by decide +kernel
theorem dX11_feed_41 : decode cX11_feed 41 = .ok (.getfield 10, 3) := by decide +kernel
theorem dX11_feed_44 : decode cX11_feed 44 = .ok (.iload 4, 2) := by decide +kernel
theorem dX11_feed_46 : decode cX11_feed 46 = .ok (.invokevirtual 109, 3) := by decide +kernel
theorem dX11_feed_49 : decode cX11_feed 49 = .ok (.aload_n 0, 1) := by decide +kernel
theorem dX11_feed_50 : decode cX11_feed 50 = .ok (.getfield 10, 3) := by decide +kernel
theorem dX11_feed_53 : decode cX11_feed 53 = .ok (.iload 5, 2) := by decide +kernel
theorem dX11_feed_55 : decode cX11_feed 55 = .ok (.invokevirtual 109, 3) := by decide +kernel
theorem dX11_feed_58 : decode cX11_feed 58 = .ok (.aload_n 0, 1) := by decide +kernel
theorem dX11_feed_59 : decode cX11_feed 59 = .ok (.getfield 10, 3) := by decide +kernel
theorem dX11_feed_62 : decode cX11_feed 62 = .ok (.getfield 113, 3) := by decide +kernel
theorem dX11_feed_65 : decode cX11_feed 65 = .ok (.ireturn, 1) := by decide +kernel
theorem dX11_end_0 : decode cX11_end 0 = .ok (.iload_n 1, 1) := by decide +kernel
theorem dX11_end_1 : decode cX11_end 1 = .ok (.ifCond .lt 14, 3) := by decide +kernel
theorem dX11_end_4 : decode cX11_end 4 = .ok (.iload_n 1, 1) := by decide +kernel
theorem dX11_end_5 : decode cX11_end 5 = .ok (.aload_n 0, 1) := by decide +kernel
theorem dX11_end_6 : decode cX11_end 6 = .ok (.getfield 10, 3) := by decide +kernel
theorem dX11_end_9 : decode cX11_end 9 = .ok (.getfield 113, 3) := by decide +kernel
theorem dX11_end_12 : decode cX11_end 12 = .ok (.if_icmp .le 11, 3) := by decide +kernel
theorem dX11_end_15 : decode cX11_end 15 = .ok (.aload_n 0, 1) := by decide +kernel
theorem dX11_end_16 : decode cX11_end 16 = .ok (.iconst 0, 1) := by decide +kernel
theorem dX11_end_17 : decode cX11_end 17 = .ok (.invokevirtual 105, 3) := by decide +kernel
theorem dX11_end_20 : decode cX11_end 20 = .ok (.pop, 1) := by decide +kernel
theorem dX11_end_21 : decode cX11_end 21 = .ok (.iconst 0, 1) := by decide +kernel
theorem dX11_end_22 : decode cX11_end 22 = .ok (.ireturn, 1) := by decide +kernel
theorem dX11_end_23 : decode cX11_end 23 = .ok (.aload_n 0, 1) := by decide +kernel
theorem dX11_end_24 : decode cX11_end 24 = .ok (.getfield 10, 3) := by decide +kernel
theorem dX11_end_27 : decode cX11_end 27 = .ok (.iload_n 1, 1) := by decide +kernel
theorem dX11_end_28 : decode cX11_end 28 = .ok (.putfield 113, 3) := by decide +kernel
theorem dX11_end_31 : decode cX11_end 31 = .ok (.iconst 1, 1) := by decide +kernel
theorem dX11_end_32 : decode cX11_end 32 = .ok (.ireturn, 1) := by decide +kernel
theorem dX11_net_0 : decode cX11_net 0 = .ok (.aload_n 0, 1) := by decide +kernel
theorem dX11_net_1 : decode cX11_net 1 = .ok (.getfield 21, 3) := by decide +kernel
theorem dX11_net_4 : decode cX11_net 4 = .ok (.invokevirtual 116, 3) := by decide +kernel
theorem dX11_net_7 : decode cX11_net 7 = .ok (.istore_n 1, 1) := by decide +kernel
theorem dX11_net_8 : decode cX11_net 8 = .ok (.aload_n 0, 1) := by decide +kernel
theorem dX11_net_9 : decode cX11_net 9 = .ok (.getfield 10, 3) := by decide +kernel
theorem dX11_net_12 : decode cX11_net 12 = .ok (.iconst 0, 1) := by decide +kernel
theorem dX11_net_13 : decode cX11_net 13 = .ok (.putfield 113, 3) := by decide +kernel
theorem dX11_net_16 : decode cX11_net 16 = .ok (.iload_n 1, 1) := by decide +kernel
theorem dX11_net_17 : decode cX11_net 17 = .ok (.ifCond .ne 9, 3) := by decide +kernel
theorem dX11_net_20 : decode cX11_net 20 = .ok (.aload_n 0, 1) := by decide +kernel
theorem dX11_net_21 : decode cX11_net 21 = .ok (.iconst 1, 1) := by decide +kernel
theorem dX11_net_22 : decode cX11_net 22 = .ok (.invokevirtual 105, 3) := by decide +kernel
theorem dX11_net_25 : decode cX11_net 25 = .ok (.ireturn, 1) := by decide +kernel
theorem dX11_net_26 : decode cX11_net 26 = .ok (.aload_n 0, 1) := by decide +kernel
theorem dX11_net_27 : decode cX11_net 27 = .ok (.getfield 28, 3) := by decide +kernel
theorem dX11_net_30 : decode cX11_net 30 = .ok (.aload_n 0, 1) := by decide +kernel
theorem dX11_net_31 : decode cX11_net 31 = .ok (.getfield 21, 3) := by decide +kernel
theorem dX11_net_34 : decode cX11_net 34 = .ok (.getfield 119, 3) := by decide +kernel
theorem dX11_net_37 : decode cX11_net 37 = .ok (.invokevirtual 122, 3) := by decide +kernel
theorem dX11_net_40 : decode cX11_net 40 = .ok (.aload_n 0, 1) := by decide +kernel
theorem dX11_net_41 : decode cX11_net 41 = .ok (.getfield 21, 3) := by decide +kernel
theorem dX11_net_44 : decode cX11_net 44 = .ok (.getfield 126, 3) := by decide +kernel
theorem dX11_net_47 : decode cX11_net 47 = .ok (.iconst 0, 1) := by decide +kernel
theorem dX11_net_48 : decode cX11_net 48 = .ok (.aload_n 0, 1) := by decide +kernel
theorem dX11_net_49 : decode cX11_net 49 = .ok (.getfield 32, 3) := by decide +kernel
theorem dX11_net_52 : decode cX11_net 52 = .ok (.iconst 0, 1) := by decide +kernel
theorem dX11_net_53 : decode cX11_net 53 = .ok (.bipush 20, 2) := by decide +kernel
theorem dX11_net_55 : decode cX11_net 55 = .ok (.invokestatic 127, 3) := by decide +kernel
theorem dX11_net_58 : decode cX11_net 58 = .ok (.aload_n 0, 1) := by decide +kernel
theorem dX11_net_59 : decode cX11_net 59 = .ok (.getfield 21, 3) := by decide +kernel
theorem dX11_net_62 : decode cX11_net 62 = .ok (.getfield 133, 3) := by decide +kernel
theorem dX11_net_65 : decode cX11_net 65 = .ok (.iconst 0, 1) := by decide +kernel
theorem dX11_net_66 : decode cX11_net 66 = .ok (.aload_n 0, 1) := by decide +kernel
theorem dX11_net_67 : decode cX11_net 67 = .ok (.getfield 36, 3) := by decide +kernel
theorem dX11_net_70 : decode cX11_net 70 = .ok (.iconst 0, 1) := by decide +kernel
theorem dX11_net_71 : decode cX11_net 71 = .ok (.bipush 10, 2) := by decide +kernel
theorem dX11_net_73 : decode cX11_net 73 = .ok (.invokestatic 127, 3) := by decide +kernel
theorem dX11_net_76 : decode cX11_net 76 = .ok (.aload_n 0, 1) := by decide +kernel
theorem dX11_net_77 : decode cX11_net 77 = .ok (.aload_n 0, 1) := by decide +kernel
theorem dX11_net_78 : decode cX11_net 78 = .ok (.getfield 21, 3) := by decide +kernel
theorem dX11_net_81 : decode cX11_net 81 = .ok (.getfield 134, 3) := by decide +kernel
theorem dX11_net_84 : decode cX11_net 84 = .ok (.putfield 137, 3) := by decide +kernel
theorem dX11_net_87 : decode cX11_net 87 = .ok (.aload_n 0, 1) := by decide +kernel
theorem dX11_net_88 : decode cX11_net 88 = .ok (.getfield 70, 3) := by decide +kernel
theorem dX11_net_91 : decode cX11_net 91 = .ok (.iconst 0, 1) := by decide +kernel
theorem dX11_net_92 : decode cX11_net 92 = .ok (.putfield 138, 3) := by decide +kernel
theorem dX11_net_95 : decode cX11_net 95 = .ok (.aload_n 0, 1) := by decide +kernel
theorem dX11_net_96 : decode cX11_net 96 = .ok (.invokevirtual 141, 3) := by decide +kernel
theorem dX11_net_99 : decode cX11_net 99 = .ok (.aload_n 0, 1) := by decide +kernel
theorem dX11_net_100 : decode cX11_net 100 = .ok (.invokevirtual 144, 3) := by decide +kernel
theorem dX11_net_103 : decode cX11_net 103 = .ok (.iconst 1, 1) := by decide +kernel
theorem dX11_net_104 : decode cX11_net 104 = .ok (.aload_n 0, 1) := by decide +kernel
theorem dX11_net_105 : decode cX11_net 105 = .ok (.getfield 28, 3) := by decide +kernel
theorem dX11_net_108 : decode cX11_net 108 = .ok (.getfield 147, 3) := by decide +kernel
theorem dX11_net_111 : decode cX11_net 111 = .ok (.iadd, 1) := by decide +kernel
theorem dX11_net_112 : decode cX11_net 112 = .ok (.ireturn, 1) := by decide +kernel
theorem dX11_fault_0 : decode cX11_fault 0 = .ok (.iload_n 1, 1) := by decide +kernel
theorem dX11_fault_1 : decode cX11_fault 1 = .ok (.lookupswitch 43 #[(0, 27), (1, 35)], 27) := by decide +kernel
theorem dX11_fault_28 : decode cX11_fault 28 = .ok (.aload_n 0, 1) := by decide +kernel
theorem dX11_fault_29 : decode cX11_fault 29 = .ok (.getfield 21, 3) := by decide +kernel
theorem dX11_fault_32 : decode cX11_fault 32 = .ok (.getfield 150, 3) := by decide +kernel
theorem dX11_fault_35 : decode cX11_fault 35 = .ok (.ireturn, 1) := by decide +kernel
theorem dX11_fault_36 : decode cX11_fault 36 = .ok (.aload_n 0, 1) := by decide +kernel
theorem dX11_fault_37 : decode cX11_fault 37 = .ok (.getfield 21, 3) := by decide +kernel
theorem dX11_fault_40 : decode cX11_fault 40 = .ok (.getfield 153, 3) := by decide +kernel
theorem dX11_fault_43 : decode cX11_fault 43 = .ok (.ireturn, 1) := by decide +kernel
theorem dX11_fault_44 : decode cX11_fault 44 = .ok (.iconst (-1), 1) := by decide +kernel
theorem dX11_fault_45 : decode cX11_fault 45 = .ok (.ireturn, 1) := by decide +kernel
theorem dX11_has_0 : decode cX11_has 0 = .ok (.iload_n 1, 1) := by decide +kernel
theorem dX11_has_1 : decode cX11_has 1 = .ok (.tableswitch 156 0 9 #[55, 63, 71, 76, 87, 98, 110, 118, 126, 144], 55) := by decide +kernel
theorem dX11_has_56 : decode cX11_has 56 = .ok (.aload_n 0, 1) := by decide +kernel
theorem dX11_has_57 : decode cX11_has 57 = .ok (.getfield 28, 3) := by decide +kernel
theorem dX11_has_60 : decode cX11_has 60 = .ok (.getfield 156, 3) := by decide +kernel
theorem dX11_has_63 : decode cX11_has 63 = .ok (.ireturn, 1) := by decide +kernel
theorem dX11_has_64 : decode cX11_has 64 = .ok (.aload_n 0, 1) := by decide +kernel
theorem dX11_has_65 : decode cX11_has 65 = .ok (.getfield 28, 3) := by decide +kernel
theorem dX11_has_68 : decode cX11_has 68 = .ok (.getfield 147, 3) := by decide +kernel
theorem dX11_has_71 : decode cX11_has 71 = .ok (.ireturn, 1) := by decide +kernel
theorem dX11_has_72 : decode cX11_has 72 = .ok (.aload_n 0, 1) := by decide +kernel
theorem dX11_has_73 : decode cX11_has 73 = .ok (.getfield 137, 3) := by decide +kernel
theorem dX11_has_76 : decode cX11_has 76 = .ok (.ireturn, 1) := by decide +kernel
theorem dX11_has_77 : decode cX11_has 77 = .ok (.aload_n 0, 1) := by decide +kernel
theorem dX11_has_78 : decode cX11_has 78 = .ok (.getfield 42, 3) := by decide +kernel
theorem dX11_has_81 : decode cX11_has 81 = .ok (.getfield 159, 3) := by decide +kernel
theorem dX11_has_84 : decode cX11_has 84 = .ok (.invokestatic 162, 3) := by decide +kernel
theorem dX11_has_87 : decode cX11_has 87 = .ok (.ireturn, 1) := by decide +kernel
theorem dX11_has_88 : decode cX11_has 88 = .ok (.aload_n 0, 1) := by decide +kernel
theorem dX11_has_89 : decode cX11_has 89 = .ok (.getfield 42, 3) := by decide +kernel
theorem dX11_has_92 : decode cX11_has 92 = .ok (.getfield 167, 3) := by decide +kernel
theorem dX11_has_95 : decode cX11_has 95 = .ok (.invokestatic 162, 3) := by decide +kernel
theorem dX11_has_98 : decode cX11_has 98 = .ok (.ireturn, 1) := by decide +kernel
theorem dX11_has_99 : decode cX11_has 99 = .ok (.aload_n 0, 1) := by decide +kernel
theorem dX11_has_100 : decode cX11_has 100 = .ok (.getfield 42, 3) := by decide +kernel
theorem dX11_has_103 : decode cX11_has 103 = .ok (.aload_n 0, 1) := by decide +kernel
theorem dX11_has_104 : decode cX11_has 104 = .ok (.getfield 28, 3) := by decide +kernel
theorem dX11_has_107 : decode cX11_has 107 = .ok (.invokevirtual 170, 3) := by decide +kernel
theorem dX11_has_110 : decode cX11_has 110 = .ok (.ireturn, 1) := by decide +kernel
theorem dX11_has_111 : decode cX11_has 111 = .ok (.aload_n 0, 1) := by decide +kernel
theorem dX11_has_112 : decode cX11_has 112 = .ok (.getfield 56, 3) := by decide +kernel
theorem dX11_has_115 : decode cX11_has 115 = .ok (.getfield 174, 3) := by decide +kernel
theorem dX11_has_118 : decode cX11_has 118 = .ok (.ireturn, 1) := by decide +kernel
theorem dX11_has_119 : decode cX11_has 119 = .ok (.aload_n 0, 1) := by decide +kernel
theorem dX11_has_120 : decode cX11_has 120 = .ok (.getfield 70, 3) := by decide +kernel
theorem dX11_has_123 : decode cX11_has 123 = .ok (.getfield 138, 3) := by decide +kernel
theorem dX11_has_126 : decode cX11_has 126 = .ok (.ireturn, 1) := by decide +kernel
theorem dX11_has_127 : decode cX11_has 127 = .ok (.aload_n 0, 1) := by decide +kernel
theorem dX11_has_128 : decode cX11_has 128 = .ok (.getfield 42, 3) := by decide +kernel
theorem dX11_has_131 : decode cX11_has 131 = .ok (.getfield 177, 3) := by decide +kernel
theorem dX11_has_134 : decode cX11_has 134 = .ok (.aload_n 0, 1) := by decide +kernel
theorem dX11_has_135 : decode cX11_has 135 = .ok (.getfield 42, 3) := by decide +kernel
theorem dX11_has_138 : decode cX11_has 138 = .ok (.getfield 167, 3) := by decide +kernel
theorem dX11_has_141 : decode cX11_has 141 = .ok (.invokevirtual 181, 3) := by decide +kernel
theorem dX11_has_144 : decode cX11_has 144 = .ok (.ireturn, 1) := by decide +kernel
theorem dX11_has_145 : decode cX11_has 145 = .ok (.aload_n 0, 1) := by decide +kernel
theorem dX11_has_146 : decode cX11_has 146 = .ok (.getfield 42, 3) := by decide +kernel
theorem dX11_has_149 : decode cX11_has 149 = .ok (.aload_n 0, 1) := by decide +kernel
theorem dX11_has_150 : decode cX11_has 150 = .ok (.getfield 28, 3) := by decide +kernel
theorem dX11_has_153 : decode cX11_has 153 = .ok (.invokevirtual 186, 3) := by decide +kernel
theorem dX11_has_156 : decode cX11_has 156 = .ok (.ireturn, 1) := by decide +kernel
theorem dX11_has_157 : decode cX11_has 157 = .ok (.iconst (-1), 1) := by decide +kernel
theorem dX11_has_158 : decode cX11_has 158 = .ok (.ireturn, 1) := by decide +kernel
theorem dX11_letter_0 : decode cX11_letter 0 = .ok (.iload_n 3, 1) := by decide +kernel
theorem dX11_letter_1 : decode cX11_letter 1 = .ok (.ifCond .lt 13, 3) := by decide +kernel
theorem dX11_letter_4 : decode cX11_letter 4 = .ok (.iload_n 3, 1) := by decide +kernel
theorem dX11_letter_5 : decode cX11_letter 5 = .ok (.bipush 6, 2) := by decide +kernel
theorem dX11_letter_7 : decode cX11_letter 7 = .ok (.if_icmp .ge 7, 3) := by decide +kernel
theorem dX11_letter_10 : decode cX11_letter 10 = .ok (.iload_n 2, 1) := by decide +kernel
theorem dX11_letter_11 : decode cX11_letter 11 = .ok (.ifCond .ge 5, 3) := by decide +kernel
theorem dX11_letter_14 : decode cX11_letter 14 = .ok (.iconst (-1), 1) := by decide +kernel
theorem dX11_letter_15 : decode cX11_letter 15 = .ok (.ireturn, 1) := by decide +kernel
theorem dX11_letter_16 : decode cX11_letter 16 = .ok (.iload_n 1, 1) := by decide +kernel
theorem dX11_letter_17 : decode cX11_letter 17 = .ok (.ifCond .ne 25, 3) := by decide +kernel
theorem dX11_letter_20 : decode cX11_letter 20 = .ok (.iload_n 2, 1) := by decide +kernel
theorem dX11_letter_21 : decode cX11_letter 21 = .ok (.aload_n 0, 1) := by decide +kernel
theorem dX11_letter_22 : decode cX11_letter 22 = .ok (.getfield 28, 3) := by decide +kernel
theorem dX11_letter_25 : decode cX11_letter 25 = .ok (.getfield 156, 3) := by decide +kernel
theorem dX11_letter_28 : decode cX11_letter 28 = .ok (.if_icmp .ge 14, 3) := by decide +kernel
theorem dX11_letter_31 : decode cX11_letter 31 = .ok (.aload_n 0, 1) := by decide +kernel
theorem dX11_letter_32 : decode cX11_letter 32 = .ok (.getfield 32, 3) := by decide +kernel
theorem dX11_letter_35 : decode cX11_letter 35 = .ok (.iload_n 2, 1) := by decide +kernel
theorem dX11_letter_36 : decode cX11_letter 36 = .ok (.iaload, 1) := by decide +kernel
theorem dX11_letter_37 : decode cX11_letter 37 = .ok (.iload_n 3, 1) := by decide +kernel
theorem dX11_letter_38 : decode cX11_letter 38 = .ok (.invokestatic 189, 3) := by decide +kernel
theorem dX11_letter_41 : decode cX11_letter 41 = .ok (.ireturn, 1) := by decide +kernel
theorem dX11_letter_42 : decode cX11_letter 42 = .ok (.iload_n 1, 1) := by decide +kernel
theorem dX11_letter_43 : decode cX11_letter 43 = .ok (.iconst 1, 1) := by decide +kernel
theorem dX11_letter_44 : decode cX11_letter 44 = .ok (.if_icmp .ne 22, 3) := by decide +kernel
theorem dX11_letter_47 : decode cX11_letter 47 = .ok (.iload_n 2, 1) := by decide +kernel
theorem dX11_letter_48 : decode cX11_letter 48 = .ok (.aload_n 0, 1) := by decide +kernel
theorem dX11_letter_49 : decode cX11_letter 49 = .ok (.getfield 137, 3) := by decide +kernel
theorem dX11_letter_52 : decode cX11_letter 52 = .ok (.if_icmp .ge 14, 3) := by decide +kernel
theorem dX11_letter_55 : decode cX11_letter 55 = .ok (.aload_n 0, 1) := by decide +kernel
theorem dX11_letter_56 : decode cX11_letter 56 = .ok (.getfield 36, 3) := by decide +kernel
theorem dX11_letter_59 : decode cX11_letter 59 = .ok (.iload_n 2, 1) := by decide +kernel
theorem dX11_letter_60 : decode cX11_letter 60 = .ok (.iaload, 1) := by decide +kernel
theorem dX11_letter_61 : decode cX11_letter 61 = .ok (.iload_n 3, 1) := by decide +kernel
theorem dX11_letter_62 : decode cX11_letter 62 = .ok (.invokestatic 189, 3) := by decide +kernel
theorem dX11_letter_65 : decode cX11_letter 65 = .ok (.ireturn, 1) := by decide +kernel
theorem dX11_letter_66 : decode cX11_letter 66 = .ok (.iconst (-1), 1) := by decide +kernel
theorem dX11_letter_67 : decode cX11_letter 67 = .ok (.ireturn, 1) := by decide +kernel
theorem dX11_reach_0 : decode cX11_reach 0 = .ok (.aload_n 0, 1) := by decide +kernel
theorem dX11_reach_1 : decode cX11_reach 1 = .ok (.getfield 28, 3) := by decide +kernel
theorem dX11_reach_4 : decode cX11_reach 4 = .ok (.iload_n 1, 1) := by decide +kernel
theorem dX11_reach_5 : decode cX11_reach 5 = .ok (.invokevirtual 193, 3) := by decide +kernel
theorem dX11_reach_8 : decode cX11_reach 8 = .ok (.ifCond .ne 5, 3) := by decide +kernel
theorem dX11_reach_11 : decode cX11_reach 11 = .ok (.iconst (-1), 1) := by decide +kernel
theorem dX11_reach_12 : decode cX11_reach 12 = .ok (.ireturn, 1) := by decide +kernel
theorem dX11_reach_13 : decode cX11_reach 13 = .ok (.iload_n 2, 1) := by decide +kernel
theorem dX11_reach_14 : decode cX11_reach 14 = .ok (.tableswitch 118 0 6 #[42, 52, 62, 72, 82, 92, 105], 42) := by decide +kernel
theorem dX11_reach_56 : decode cX11_reach 56 = .ok (.aload_n 0, 1) := by decide +kernel
theorem dX11_reach_57 : decode cX11_reach 57 = .ok (.getfield 28, 3) := by decide +kernel
theorem dX11_reach_60 : decode cX11_reach 60 = .ok (.getfield 197, 3) := by decide +kernel
theorem dX11_reach_63 : decode cX11_reach 63 = .ok (.iload_n 1, 1) := by decide +kernel
theorem dX11_reach_64 : decode cX11_reach 64 = .ok (.iaload, 1) := by decide +kernel
theorem dX11_reach_65 : decode cX11_reach 65 = .ok (.ireturn, 1) := by decide +kernel
theorem dX11_reach_66 : decode cX11_reach 66 = .ok (.aload_n 0, 1) := by decide +kernel
theorem dX11_reach_67 : decode cX11_reach 67 = .ok (.getfield 28, 3) := by decide +kernel
theorem dX11_reach_70 : decode cX11_reach 70 = .ok (.getfield 200, 3) := by decide +kernel
theorem dX11_reach_73 : decode cX11_reach 73 = .ok (.iload_n 1, 1) := by decide +kernel
theorem dX11_reach_74 : decode cX11_reach 74 = .ok (.iaload, 1) := by decide +kernel
theorem dX11_reach_75 : decode cX11_reach 75 = .ok (.ireturn, 1) := by decide +kernel
theorem dX11_reach_76 : decode cX11_reach 76 = .ok (.aload_n 0, 1) := by decide +kernel
theorem dX11_reach_77 : decode cX11_reach 77 = .ok (.getfield 28, 3) := by decide +kernel
theorem dX11_reach_80 : decode cX11_reach 80 = .ok (.getfield 203, 3) := by decide +kernel
theorem dX11_reach_83 : decode cX11_reach 83 = .ok (.iload_n 1, 1) := by decide +kernel
theorem dX11_reach_84 : decode cX11_reach 84 = .ok (.iaload, 1) := by decide +kernel
theorem dX11_reach_85 : decode cX11_reach 85 = .ok (.ireturn, 1) := by decide +kernel
theorem dX11_reach_86 : decode cX11_reach 86 = .ok (.aload_n 0, 1) := by decide +kernel
theorem dX11_reach_87 : decode cX11_reach 87 = .ok (.getfield 28, 3) := by decide +kernel
theorem dX11_reach_90 : decode cX11_reach 90 = .ok (.getfield 206, 3) := by decide +kernel
theorem dX11_reach_93 : decode cX11_reach 93 = .ok (.iload_n 1, 1) := by decide +kernel
theorem dX11_reach_94 : decode cX11_reach 94 = .ok (.iaload, 1) := by decide +kernel
theorem dX11_reach_95 : decode cX11_reach 95 = .ok (.ireturn, 1) := by decide +kernel
theorem dX11_reach_96 : decode cX11_reach 96 = .ok (.aload_n 0, 1) := by decide +kernel
theorem dX11_reach_97 : decode cX11_reach 97 = .ok (.getfield 28, 3) := by decide +kernel
theorem dX11_reach_100 : decode cX11_reach 100 = .ok (.getfield 209, 3) := by decide +kernel
theorem dX11_reach_103 : decode cX11_reach 103 = .ok (.iload_n 1, 1) := by decide +kernel
theorem dX11_reach_104 : decode cX11_reach 104 = .ok (.iaload, 1) := by decide +kernel
theorem dX11_reach_105 : decode cX11_reach 105 = .ok (.ireturn, 1) := by decide +kernel
theorem dX11_reach_106 : decode cX11_reach 106 = .ok (.aload_n 0, 1) := by decide +kernel
theorem dX11_reach_107 : decode cX11_reach 107 = .ok (.getfield 42, 3) := by decide +kernel
theorem dX11_reach_110 : decode cX11_reach 110 = .ok (.getfield 177, 3) := by decide +kernel
theorem dX11_reach_113 : decode cX11_reach 113 = .ok (.getfield 212, 3) := by decide +kernel
theorem dX11_reach_116 : decode cX11_reach 116 = .ok (.iload_n 1, 1) := by decide +kernel
theorem dX11_reach_117 : decode cX11_reach 117 = .ok (.iaload, 1) := by decide +kernel
theorem dX11_reach_118 : decode cX11_reach 118 = .ok (.ireturn, 1) := by decide +kernel
theorem dX11_reach_119 : decode cX11_reach 119 = .ok (.aload_n 0, 1) := by decide +kernel
theorem dX11_reach_120 : decode cX11_reach 120 = .ok (.getfield 42, 3) := by decide +kernel
theorem dX11_reach_123 : decode cX11_reach 123 = .ok (.getfield 215, 3) := by decide +kernel
theorem dX11_reach_126 : decode cX11_reach 126 = .ok (.iload_n 1, 1) := by decide +kernel
theorem dX11_reach_127 : decode cX11_reach 127 = .ok (.iaload, 1) := by decide +kernel
theorem dX11_reach_128 : decode cX11_reach 128 = .ok (.invokestatic 162, 3) := by decide +kernel
theorem dX11_reach_131 : decode cX11_reach 131 = .ok (.ireturn, 1) := by decide +kernel
theorem dX11_reach_132 : decode cX11_reach 132 = .ok (.iconst (-1), 1) := by decide +kernel
theorem dX11_reach_133 : decode cX11_reach 133 = .ok (.ireturn, 1) := by decide +kernel
theorem dX11_place_0 : decode cX11_place 0 = .ok (.aload_n 0, 1) := by decide +kernel
theorem dX11_place_1 : decode cX11_place 1 = .ok (.getfield 28, 3) := by decide +kernel
theorem dX11_place_4 : decode cX11_place 4 = .ok (.iload_n 1, 1) := by decide +kernel
theorem dX11_place_5 : decode cX11_place 5 = .ok (.invokevirtual 218, 3) := by decide +kernel
theorem dX11_place_8 : decode cX11_place 8 = .ok (.ifCond .ne 5, 3) := by decide +kernel
theorem dX11_place_11 : decode cX11_place 11 = .ok (.iconst (-1), 1) := by decide +kernel
theorem dX11_place_12 : decode cX11_place 12 = .ok (.ireturn, 1) := by decide +kernel
theorem dX11_place_13 : decode cX11_place 13 = .ok (.iload_n 2, 1) := by decide +kernel
theorem dX11_place_14 : decode cX11_place 14 = .ok (.tableswitch 119 0 6 #[42, 52, 62, 74, 86, 99, 109], 42) := by decide +kernel
theorem dX11_place_56 : decode cX11_place 56 = .ok (.aload_n 0, 1) := by decide +kernel
theorem dX11_place_57 : decode cX11_place 57 = .ok (.getfield 42, 3) := by decide +kernel
theorem dX11_place_60 : decode cX11_place 60 = .ok (.getfield 221, 3) := by decide +kernel
theorem dX11_place_63 : decode cX11_place 63 = .ok (.iload_n 1, 1) := by decide +kernel
theorem dX11_place_64 : decode cX11_place 64 = .ok (.iaload, 1) := by decide +kernel
theorem dX11_place_65 : decode cX11_place 65 = .ok (.ireturn, 1) := by decide +kernel
theorem dX11_place_66 : decode cX11_place 66 = .ok (.aload_n 0, 1) := by decide +kernel
theorem dX11_place_67 : decode cX11_place 67 = .ok (.getfield 42, 3) := by decide +kernel
theorem dX11_place_70 : decode cX11_place 70 = .ok (.getfield 224, 3) := by decide +kernel
theorem dX11_place_73 : decode cX11_place 73 = .ok (.iload_n 1, 1) := by decide +kernel
theorem dX11_place_74 : decode cX11_place 74 = .ok (.iaload, 1) := by decide +kernel
theorem dX11_place_75 : decode cX11_place 75 = .ok (.ireturn, 1) := by decide +kernel
theorem dX11_place_76 : decode cX11_place 76 = .ok (.aload_n 0, 1) := by decide +kernel
theorem dX11_place_77 : decode cX11_place 77 = .ok (.getfield 42, 3) := by decide +kernel
theorem dX11_place_80 : decode cX11_place 80 = .ok (.getfield 159, 3) := by decide +kernel
theorem dX11_place_83 : decode cX11_place 83 = .ok (.iload_n 1, 1) := by decide +kernel
theorem dX11_place_84 : decode cX11_place 84 = .ok (.ishr, 1) := by decide +kernel
theorem dX11_place_85 : decode cX11_place 85 = .ok (.iconst 1, 1) := by decide +kernel
theorem dX11_place_86 : decode cX11_place 86 = .ok (.iand, 1) := by decide +kernel
theorem dX11_place_87 : decode cX11_place 87 = .ok (.ireturn, 1) := by decide +kernel
theorem dX11_place_88 : decode cX11_place 88 = .ok (.aload_n 0, 1) := by decide +kernel
theorem dX11_place_89 : decode cX11_place 89 = .ok (.getfield 42, 3) := by decide +kernel
theorem dX11_place_92 : decode cX11_place 92 = .ok (.getfield 167, 3) := by decide +kernel
theorem dX11_place_95 : decode cX11_place 95 = .ok (.iload_n 1, 1) := by decide +kernel
theorem dX11_place_96 : decode cX11_place 96 = .ok (.ishr, 1) := by decide +kernel
theorem dX11_place_97 : decode cX11_place 97 = .ok (.iconst 1, 1) := by decide +kernel
theorem dX11_place_98 : decode cX11_place 98 = .ok (.iand, 1) := by decide +kernel
theorem dX11_place_99 : decode cX11_place 99 = .ok (.ireturn, 1) := by decide +kernel
theorem dX11_place_100 : decode cX11_place 100 = .ok (.aload_n 0, 1) := by decide +kernel
theorem dX11_place_101 : decode cX11_place 101 = .ok (.getfield 42, 3) := by decide +kernel
theorem dX11_place_104 : decode cX11_place 104 = .ok (.getfield 177, 3) := by decide +kernel
theorem dX11_place_107 : decode cX11_place 107 = .ok (.getfield 227, 3) := by decide +kernel
theorem dX11_place_110 : decode cX11_place 110 = .ok (.iload_n 1, 1) := by decide +kernel
theorem dX11_place_111 : decode cX11_place 111 = .ok (.iaload, 1) := by decide +kernel
theorem dX11_place_112 : decode cX11_place 112 = .ok (.ireturn, 1) := by decide +kernel
theorem dX11_place_113 : decode cX11_place 113 = .ok (.aload_n 0, 1) := by decide +kernel
theorem dX11_place_114 : decode cX11_place 114 = .ok (.getfield 42, 3) := by decide +kernel
theorem dX11_place_117 : decode cX11_place 117 = .ok (.getfield 230, 3) := by decide +kernel
theorem dX11_place_120 : decode cX11_place 120 = .ok (.iload_n 1, 1) := by decide +kernel
theorem dX11_place_121 : decode cX11_place 121 = .ok (.iaload, 1) := by decide +kernel
theorem dX11_place_122 : decode cX11_place 122 = .ok (.ireturn, 1) := by decide +kernel
theorem dX11_place_123 : decode cX11_place 123 = .ok (.aload_n 0, 1) := by decide +kernel
theorem dX11_place_124 : decode cX11_place 124 = .ok (.getfield 42, 3) := by decide +kernel
theorem dX11_place_127 : decode cX11_place 127 = .ok (.getfield 233, 3) := by decide +kernel
theorem dX11_place_130 : decode cX11_place 130 = .ok (.iload_n 1, 1) := by decide +kernel
theorem dX11_place_131 : decode cX11_place 131 = .ok (.iaload, 1) := by decide +kernel
theorem dX11_place_132 : decode cX11_place 132 = .ok (.ireturn, 1) := by decide +kernel
theorem dX11_place_133 : decode cX11_place 133 = .ok (.iconst (-1), 1) := by decide +kernel
theorem dX11_place_134 : decode cX11_place 134 = .ok (.ireturn, 1) := by decide +kernel
theorem dX11_rank_0 : decode cX11_rank 0 = .ok (.aload_n 0, 1) := by decide +kernel
theorem dX11_rank_1 : decode cX11_rank 1 = .ok (.getfield 28, 3) := by decide +kernel
theorem dX11_rank_4 : decode cX11_rank 4 = .ok (.iload_n 1, 1) := by decide +kernel
theorem dX11_rank_5 : decode cX11_rank 5 = .ok (.invokevirtual 193, 3) := by decide +kernel
theorem dX11_rank_8 : decode cX11_rank 8 = .ok (.ifCond .ne 5, 3) := by decide +kernel
theorem dX11_rank_11 : decode cX11_rank 11 = .ok (.iconst (-1), 1) := by decide +kernel
theorem dX11_rank_12 : decode cX11_rank 12 = .ok (.ireturn, 1) := by decide +kernel
theorem dX11_rank_13 : decode cX11_rank 13 = .ok (.iload_n 2, 1) := by decide +kernel
theorem dX11_rank_14 : decode cX11_rank 14 = .ok (.iconst 2, 1) := by decide +kernel
theorem dX11_rank_15 : decode cX11_rank 15 = .ok (.if_icmp .eq 8, 3) := by decide +kernel
theorem dX11_rank_18 : decode cX11_rank 18 = .ok (.iload_n 2, 1) := by decide +kernel
theorem dX11_rank_19 : decode cX11_rank 19 = .ok (.iconst 3, 1) := by decide +kernel
theorem dX11_rank_20 : decode cX11_rank 20 = .ok (.if_icmp .ne 22, 3) := by decide +kernel
theorem dX11_rank_23 : decode cX11_rank 23 = .ok (.iload_n 3, 1) := by decide +kernel
theorem dX11_rank_24 : decode cX11_rank 24 = .ok (.invokestatic 236, 3) := by decide +kernel
theorem dX11_rank_27 : decode cX11_rank 27 = .ok (.ifCond .eq 13, 3) := by decide +kernel
theorem dX11_rank_30 : decode cX11_rank 30 = .ok (.aload_n 0, 1) := by decide +kernel
theorem dX11_rank_31 : decode cX11_rank 31 = .ok (.iload_n 1, 1) := by decide +kernel
theorem dX11_rank_32 : decode cX11_rank 32 = .ok (.iload_n 2, 1) := by decide +kernel
theorem dX11_rank_33 : decode cX11_rank 33 = .ok (.iload_n 3, 1) := by decide +kernel
theorem dX11_rank_34 : decode cX11_rank 34 = .ok (.invokevirtual 239, 3) := by decide +kernel
theorem dX11_rank_37 : decode cX11_rank 37 = .ok (.goto 4, 3) := by decide +kernel
theorem dX11_rank_40 : decode cX11_rank 40 = .ok (.iconst (-1), 1) := by decide +kernel
theorem dX11_rank_41 : decode cX11_rank 41 = .ok (.ireturn, 1) := by decide +kernel
theorem dX11_rank_42 : decode cX11_rank 42 = .ok (.aload_n 0, 1) := by decide +kernel
theorem dX11_rank_43 : decode cX11_rank 43 = .ok (.iload_n 1, 1) := by decide +kernel
theorem dX11_rank_44 : decode cX11_rank 44 = .ok (.iload_n 2, 1) := by decide +kernel
theorem dX11_rank_45 : decode cX11_rank 45 = .ok (.iconst 0, 1) := by decide +kernel
theorem dX11_rank_46 : decode cX11_rank 46 = .ok (.invokevirtual 239, 3) := by decide +kernel
theorem dX11_rank_49 : decode cX11_rank 49 = .ok (.ireturn, 1) := by decide +kernel
theorem dX11_goes_0 : decode cX11_goes 0 = .ok (.aload_n 0, 1) := by decide +kernel
theorem dX11_goes_1 : decode cX11_goes 1 = .ok (.getfield 28, 3) := by decide +kernel
theorem dX11_goes_4 : decode cX11_goes 4 = .ok (.iload_n 1, 1) := by decide +kernel
theorem dX11_goes_5 : decode cX11_goes 5 = .ok (.invokevirtual 193, 3) := by decide +kernel
theorem dX11_goes_8 : decode cX11_goes 8 = .ok (.ifCond .eq 10, 3) := by decide +kernel
theorem dX11_goes_11 : decode cX11_goes 11 = .ok (.iload_n 2, 1) := by decide +kernel
theorem dX11_goes_12 : decode cX11_goes 12 = .ok (.invokestatic 236, 3) := by decide +kernel
theorem dX11_goes_15 : decode cX11_goes 15 = .ok (.ifCond .ne 5, 3) := by decide +kernel
theorem dX11_goes_18 : decode cX11_goes 18 = .ok (.iconst (-1), 1) := by decide +kernel
theorem dX11_goes_19 : decode cX11_goes 19 = .ok (.ireturn, 1) := by decide +kernel
theorem dX11_goes_20 : decode cX11_goes 20 = .ok (.iload_n 3, 1) := by decide +kernel
theorem dX11_goes_21 : decode cX11_goes 21 = .ok (.lookupswitch 51 #[(0, 27), (1, 39)], 27) := by decide +kernel
theorem dX11_goes_48 : decode cX11_goes 48 = .ok (.aload_n 0, 1) := by decide +kernel
theorem dX11_goes_49 : decode cX11_goes 49 = .ok (.getfield 49, 3) := by decide +kernel
theorem dX11_goes_52 : decode cX11_goes 52 = .ok (.iload_n 2, 1) := by decide +kernel
theorem dX11_goes_53 : decode cX11_goes 53 = .ok (.aaload, 1) := by decide +kernel
theorem dX11_goes_54 : decode cX11_goes 54 = .ok (.getfield 243, 3) := by decide +kernel
theorem dX11_goes_57 : decode cX11_goes 57 = .ok (.iload_n 1, 1) := by decide +kernel
theorem dX11_goes_58 : decode cX11_goes 58 = .ok (.iaload, 1) := by decide +kernel
theorem dX11_goes_59 : decode cX11_goes 59 = .ok (.ireturn, 1) := by decide +kernel
theorem dX11_goes_60 : decode cX11_goes 60 = .ok (.aload_n 0, 1) := by decide +kernel
theorem dX11_goes_61 : decode cX11_goes 61 = .ok (.getfield 49, 3) := by decide +kernel
theorem dX11_goes_64 : decode cX11_goes 64 = .ok (.iload_n 2, 1) := by decide +kernel
theorem dX11_goes_65 : decode cX11_goes 65 = .ok (.aaload, 1) := by decide +kernel
theorem dX11_goes_66 : decode cX11_goes 66 = .ok (.getfield 246, 3) := by decide +kernel
theorem dX11_goes_69 : decode cX11_goes 69 = .ok (.iload_n 1, 1) := by decide +kernel
theorem dX11_goes_70 : decode cX11_goes 70 = .ok (.iaload, 1) := by decide +kernel
theorem dX11_goes_71 : decode cX11_goes 71 = .ok (.ireturn, 1) := by decide +kernel
theorem dX11_goes_72 : decode cX11_goes 72 = .ok (.iconst (-1), 1) := by decide +kernel
theorem dX11_goes_73 : decode cX11_goes 73 = .ok (.ireturn, 1) := by decide +kernel
theorem dX11_stem_0 : decode cX11_stem 0 = .ok (.aload_n 0, 1) := by decide +kernel
theorem dX11_stem_1 : decode cX11_stem 1 = .ok (.getfield 28, 3) := by decide +kernel
theorem dX11_stem_4 : decode cX11_stem 4 = .ok (.iload_n 1, 1) := by decide +kernel
theorem dX11_stem_5 : decode cX11_stem 5 = .ok (.invokevirtual 193, 3) := by decide +kernel
theorem dX11_stem_8 : decode cX11_stem 8 = .ok (.ifCond .eq 10, 3) := by decide +kernel
theorem dX11_stem_11 : decode cX11_stem 11 = .ok (.iload_n 2, 1) := by decide +kernel
theorem dX11_stem_12 : decode cX11_stem 12 = .ok (.invokestatic 236, 3) := by decide +kernel
theorem dX11_stem_15 : decode cX11_stem 15 = .ok (.ifCond .ne 5, 3) := by decide +kernel
theorem dX11_stem_18 : decode cX11_stem 18 = .ok (.iconst (-1), 1) := by decide +kernel
theorem dX11_stem_19 : decode cX11_stem 19 = .ok (.ireturn, 1) := by decide +kernel
theorem dX11_stem_20 : decode cX11_stem 20 = .ok (.aload_n 0, 1) := by decide +kernel
theorem dX11_stem_21 : decode cX11_stem 21 = .ok (.getfield 49, 3) := by decide +kernel
theorem dX11_stem_24 : decode cX11_stem 24 = .ok (.iload_n 2, 1) := by decide +kernel
theorem dX11_stem_25 : decode cX11_stem 25 = .ok (.aaload, 1) := by decide +kernel
theorem dX11_stem_26 : decode cX11_stem 26 = .ok (.astore 4, 2) := by decide +kernel
theorem dX11_stem_28 : decode cX11_stem 28 = .ok (.aload 4, 2) := by decide +kernel
theorem dX11_stem_30 : decode cX11_stem 30 = .ok (.iload_n 1, 1) := by decide +kernel
theorem dX11_stem_31 : decode cX11_stem 31 = .ok (.invokevirtual 249, 3) := by decide +kernel
theorem dX11_stem_34 : decode cX11_stem 34 = .ok (.istore 5, 2) := by decide +kernel
theorem dX11_stem_36 : decode cX11_stem 36 = .ok (.iload_n 3, 1) := by decide +kernel
theorem dX11_stem_37 : decode cX11_stem 37 = .ok (.iconst (-1), 1) := by decide +kernel
theorem dX11_stem_38 : decode cX11_stem 38 = .ok (.if_icmp .ne 13, 3) := by decide +kernel
theorem dX11_stem_41 : decode cX11_stem 41 = .ok (.aload 4, 2) := by decide +kernel
theorem dX11_stem_43 : decode cX11_stem 43 = .ok (.iload 5, 2) := by decide +kernel
theorem dX11_stem_45 : decode cX11_stem 45 = .ok (.invokevirtual 252, 3) := by decide +kernel
theorem dX11_stem_48 : decode cX11_stem 48 = .ok (.goto 11, 3) := by decide +kernel
theorem dX11_stem_51 : decode cX11_stem 51 = .ok (.aload 4, 2) := by decide +kernel
theorem dX11_stem_53 : decode cX11_stem 53 = .ok (.iload 5, 2) := by decide +kernel
theorem dX11_stem_55 : decode cX11_stem 55 = .ok (.iload_n 3, 1) := by decide +kernel
theorem dX11_stem_56 : decode cX11_stem 56 = .ok (.invokevirtual 255, 3) := by decide +kernel
theorem dX11_stem_59 : decode cX11_stem 59 = .ok (.ireturn, 1) := by decide +kernel
theorem dX11_stems_0 : decode cX11_stems 0 = .ok (.iload_n 1, 1) := by decide +kernel
theorem dX11_stems_1 : decode cX11_stems 1 = .ok (.invokestatic 236, 3) := by decide +kernel
theorem dX11_stems_4 : decode cX11_stems 4 = .ok (.ifCond .ne 5, 3) := by decide +kernel
theorem dX11_stems_7 : decode cX11_stems 7 = .ok (.iconst (-1), 1) := by decide +kernel
theorem dX11_stems_8 : decode cX11_stems 8 = .ok (.ireturn, 1) := by decide +kernel
theorem dX11_stems_9 : decode cX11_stems 9 = .ok (.aload_n 0, 1) := by decide +kernel
theorem dX11_stems_10 : decode cX11_stems 10 = .ok (.getfield 49, 3) := by decide +kernel
theorem dX11_stems_13 : decode cX11_stems 13 = .ok (.iload_n 1, 1) := by decide +kernel
theorem dX11_stems_14 : decode cX11_stems 14 = .ok (.aaload, 1) := by decide +kernel
theorem dX11_stems_15 : decode cX11_stems 15 = .ok (.astore_n 3, 1) := by decide +kernel
theorem dX11_stems_16 : decode cX11_stems 16 = .ok (.iload_n 2, 1) := by decide +kernel
theorem dX11_stems_17 : decode cX11_stems 17 = .ok (.ifCond .ne 12, 3) := by decide +kernel
theorem dX11_stems_20 : decode cX11_stems 20 = .ok (.aload_n 3, 1) := by decide +kernel
theorem dX11_stems_21 : decode cX11_stems 21 = .ok (.aload_n 0, 1) := by decide +kernel
theorem dX11_stems_22 : decode cX11_stems 22 = .ok (.getfield 28, 3) := by decide +kernel
theorem dX11_stems_25 : decode cX11_stems 25 = .ok (.invokevirtual 258, 3) := by decide +kernel
theorem dX11_stems_28 : decode cX11_stems 28 = .ok (.ireturn, 1) := by decide +kernel
theorem dX11_stems_29 : decode cX11_stems 29 = .ok (.aload_n 3, 1) := by decide +kernel
theorem dX11_stems_30 : decode cX11_stems 30 = .ok (.aload_n 0, 1) := by decide +kernel
theorem dX11_stems_31 : decode cX11_stems 31 = .ok (.getfield 28, 3) := by decide +kernel
theorem dX11_stems_34 : decode cX11_stems 34 = .ok (.invokevirtual 261, 3) := by decide +kernel
theorem dX11_stems_37 : decode cX11_stems 37 = .ok (.istore 4, 2) := by decide +kernel
theorem dX11_stems_39 : decode cX11_stems 39 = .ok (.iload 4, 2) := by decide +kernel
theorem dX11_stems_41 : decode cX11_stems 41 = .ok (.iconst (-1), 1) := by decide +kernel
theorem dX11_stems_42 : decode cX11_stems 42 = .ok (.if_icmp .ne 5, 3) := by decide +kernel
theorem dX11_stems_45 : decode cX11_stems 45 = .ok (.iconst (-1), 1) := by decide +kernel
theorem dX11_stems_46 : decode cX11_stems 46 = .ok (.ireturn, 1) := by decide +kernel
theorem dX11_stems_47 : decode cX11_stems 47 = .ok (.iload_n 2, 1) := by decide +kernel
theorem dX11_stems_48 : decode cX11_stems 48 = .ok (.tableswitch 49 1 3 #[28, 35, 46], 28) := by decide +kernel
theorem dX11_stems_76 : decode cX11_stems 76 = .ok (.aload_n 3, 1) := by decide +kernel
theorem dX11_stems_77 : decode cX11_stems 77 = .ok (.iload 4, 2) := by decide +kernel
theorem dX11_stems_79 : decode cX11_stems 79 = .ok (.invokevirtual 252, 3) := by decide +kernel
theorem dX11_stems_82 : decode cX11_stems 82 = .ok (.ireturn, 1) := by decide +kernel
theorem dX11_stems_83 : decode cX11_stems 83 = .ok (.aload_n 3, 1) := by decide +kernel
theorem dX11_stems_84 : decode cX11_stems 84 = .ok (.aload_n 0, 1) := by decide +kernel
theorem dX11_stems_85 : decode cX11_stems 85 = .ok (.getfield 28, 3) := by decide +kernel
theorem dX11_stems_88 : decode cX11_stems 88 = .ok (.iload 4, 2) := by decide +kernel
theorem dX11_stems_90 : decode cX11_stems 90 = .ok (.invokevirtual 264, 3) := by decide +kernel
theorem dX11_stems_93 : decode cX11_stems 93 = .ok (.ireturn, 1) := by decide +kernel
theorem dX11_stems_94 : decode cX11_stems 94 = .ok (.iload 4, 2) := by decide +kernel
theorem dX11_stems_96 : decode cX11_stems 96 = .ok (.ireturn, 1) := by decide +kernel
theorem dX11_stems_97 : decode cX11_stems 97 = .ok (.iconst (-1), 1) := by decide +kernel
theorem dX11_stems_98 : decode cX11_stems 98 = .ok (.ireturn, 1) := by decide +kernel
theorem dX11_beyond_0 : decode cX11_beyond 0 = .ok (.aload_n 0, 1) := by decide +kernel
theorem dX11_beyond_1 : decode cX11_beyond 1 = .ok (.getfield 28, 3) := by decide +kernel
theorem dX11_beyond_4 : decode cX11_beyond 4 = .ok (.iload_n 1, 1) := by decide +kernel
theorem dX11_beyond_5 : decode cX11_beyond 5 = .ok (.invokevirtual 218, 3) := by decide +kernel
theorem dX11_beyond_8 : decode cX11_beyond 8 = .ok (.ifCond .ne 5, 3) := by decide +kernel
theorem dX11_beyond_11 : decode cX11_beyond 11 = .ok (.iconst (-1), 1) := by decide +kernel
theorem dX11_beyond_12 : decode cX11_beyond 12 = .ok (.ireturn, 1) := by decide +kernel
theorem dX11_beyond_13 : decode cX11_beyond 13 = .ok (.iload_n 2, 1) := by decide +kernel
theorem dX11_beyond_14 : decode cX11_beyond 14 = .ok (.lookupswitch 46 #[(0, 26), (1, 36)], 26) := by decide +kernel
theorem dX11_beyond_40 : decode cX11_beyond 40 = .ok (.aload_n 0, 1) := by decide +kernel
theorem dX11_beyond_41 : decode cX11_beyond 41 = .ok (.getfield 42, 3) := by decide +kernel
theorem dX11_beyond_44 : decode cX11_beyond 44 = .ok (.getfield 268, 3) := by decide +kernel
theorem dX11_beyond_47 : decode cX11_beyond 47 = .ok (.iload_n 1, 1) := by decide +kernel
theorem dX11_beyond_48 : decode cX11_beyond 48 = .ok (.iaload, 1) := by decide +kernel
theorem dX11_beyond_49 : decode cX11_beyond 49 = .ok (.ireturn, 1) := by decide +kernel
theorem dX11_beyond_50 : decode cX11_beyond 50 = .ok (.aload_n 0, 1) := by decide +kernel
theorem dX11_beyond_51 : decode cX11_beyond 51 = .ok (.getfield 42, 3) := by decide +kernel
theorem dX11_beyond_54 : decode cX11_beyond 54 = .ok (.getfield 271, 3) := by decide +kernel
theorem dX11_beyond_57 : decode cX11_beyond 57 = .ok (.iload_n 1, 1) := by decide +kernel
theorem dX11_beyond_58 : decode cX11_beyond 58 = .ok (.iaload, 1) := by decide +kernel
theorem dX11_beyond_59 : decode cX11_beyond 59 = .ok (.ireturn, 1) := by decide +kernel
theorem dX11_beyond_60 : decode cX11_beyond 60 = .ok (.iconst (-1), 1) := by decide +kernel
theorem dX11_beyond_61 : decode cX11_beyond 61 = .ok (.ireturn, 1) := by decide +kernel
theorem dX11_springs_0 : decode cX11_springs 0 = .ok (.aload_n 0, 1) := by decide +kernel
theorem dX11_springs_1 : decode cX11_springs 1 = .ok (.getfield 28, 3) := by decide +kernel
theorem dX11_springs_4 : decode cX11_springs 4 = .ok (.iload_n 1, 1) := by decide +kernel
theorem dX11_springs_5 : decode cX11_springs 5 = .ok (.invokevirtual 193, 3) := by decide +kernel
theorem dX11_springs_8 : decode cX11_springs 8 = .ok (.ifCond .eq 15, 3) := by decide +kernel
theorem dX11_springs_11 : decode cX11_springs 11 = .ok (.aload_n 0, 1) := by decide +kernel
theorem dX11_springs_12 : decode cX11_springs 12 = .ok (.getfield 42, 3) := by decide +kernel
theorem dX11_springs_15 : decode cX11_springs 15 = .ok (.getfield 215, 3) := by decide +kernel
theorem dX11_springs_18 : decode cX11_springs 18 = .ok (.iload_n 1, 1) := by decide +kernel
theorem dX11_springs_19 : decode cX11_springs 19 = .ok (.iaload, 1) := by decide +kernel
theorem dX11_springs_20 : decode cX11_springs 20 = .ok (.goto 4, 3) := by decide +kernel
theorem dX11_springs_23 : decode cX11_springs 23 = .ok (.iconst (-1), 1) := by decide +kernel
theorem dX11_springs_24 : decode cX11_springs 24 = .ok (.ireturn, 1) := by decide +kernel
theorem dX11_ways_0 : decode cX11_ways 0 = .ok (.aload_n 0, 1) := by decide +kernel
theorem dX11_ways_1 : decode cX11_ways 1 = .ok (.getfield 28, 3) := by decide +kernel
theorem dX11_ways_4 : decode cX11_ways 4 = .ok (.iload_n 1, 1) := by decide +kernel
theorem dX11_ways_5 : decode cX11_ways 5 = .ok (.invokevirtual 218, 3) := by decide +kernel
theorem dX11_ways_8 : decode cX11_ways 8 = .ok (.ifCond .eq 14, 3) := by decide +kernel
theorem dX11_ways_11 : decode cX11_ways 11 = .ok (.aload_n 0, 1) := by decide +kernel
theorem dX11_ways_12 : decode cX11_ways 12 = .ok (.getfield 28, 3) := by decide +kernel
theorem dX11_ways_15 : decode cX11_ways 15 = .ok (.iload_n 2, 1) := by decide +kernel
theorem dX11_ways_16 : decode cX11_ways 16 = .ok (.invokevirtual 218, 3) := by decide +kernel
theorem dX11_ways_19 : decode cX11_ways 19 = .ok (.ifCond .ne 5, 3) := by decide +kernel
theorem dX11_ways_22 : decode cX11_ways 22 = .ok (.iconst (-1), 1) := by decide +kernel
theorem dX11_ways_23 : decode cX11_ways 23 = .ok (.ireturn, 1) := by decide +kernel
theorem dX11_ways_24 : decode cX11_ways 24 = .ok (.aload_n 0, 1) := by decide +kernel
theorem dX11_ways_25 : decode cX11_ways 25 = .ok (.getfield 84, 3) := by decide +kernel
theorem dX11_ways_28 : decode cX11_ways 28 = .ok (.aload_n 0, 1) := by decide +kernel
theorem dX11_ways_29 : decode cX11_ways 29 = .ok (.getfield 28, 3) := by decide +kernel
theorem dX11_ways_32 : decode cX11_ways 32 = .ok (.aload_n 0, 1) := by decide +kernel
theorem dX11_ways_33 : decode cX11_ways 33 = .ok (.getfield 42, 3) := by decide +kernel
theorem dX11_ways_36 : decode cX11_ways 36 = .ok (.iload_n 1, 1) := by decide +kernel
theorem dX11_ways_37 : decode cX11_ways 37 = .ok (.iload_n 2, 1) := by decide +kernel
theorem dX11_ways_38 : decode cX11_ways 38 = .ok (.invokevirtual 274, 3) := by decide +kernel
theorem dX11_ways_41 : decode cX11_ways 41 = .ok (.ireturn, 1) := by decide +kernel
theorem dX11_far_0 : decode cX11_far 0 = .ok (.aload_n 0, 1) := by decide +kernel
theorem dX11_far_1 : decode cX11_far 1 = .ok (.getfield 28, 3) := by decide +kernel
theorem dX11_far_4 : decode cX11_far 4 = .ok (.iload_n 1, 1) := by decide +kernel
theorem dX11_far_5 : decode cX11_far 5 = .ok (.invokevirtual 218, 3) := by decide +kernel
theorem dX11_far_8 : decode cX11_far 8 = .ok (.ifCond .eq 23, 3) := by decide +kernel
theorem dX11_far_11 : decode cX11_far 11 = .ok (.aload_n 0, 1) := by decide +kernel
theorem dX11_far_12 : decode cX11_far 12 = .ok (.getfield 28, 3) := by decide +kernel
theorem dX11_far_15 : decode cX11_far 15 = .ok (.iload_n 2, 1) := by decide +kernel
theorem dX11_far_16 : decode cX11_far 16 = .ok (.invokevirtual 218, 3) := by decide +kernel
theorem dX11_far_19 : decode cX11_far 19 = .ok (.ifCond .eq 12, 3) := by decide +kernel
theorem dX11_far_22 : decode cX11_far 22 = .ok (.iload_n 3, 1) := by decide +kernel
theorem dX11_far_23 : decode cX11_far 23 = .ok (.ifCond .lt 8, 3) := by decide +kernel
theorem dX11_far_26 : decode cX11_far 26 = .ok (.iload_n 3, 1) := by decide +kernel
theorem dX11_far_27 : decode cX11_far 27 = .ok (.iconst 1, 1) := by decide +kernel
theorem dX11_far_28 : decode cX11_far 28 = .ok (.if_icmp .le 5, 3) := by decide +kernel
theorem dX11_far_31 : decode cX11_far 31 = .ok (.iconst (-1), 1) := by decide +kernel
theorem dX11_far_32 : decode cX11_far 32 = .ok (.ireturn, 1) := by decide +kernel
theorem dX11_far_33 : decode cX11_far 33 = .ok (.aload_n 0, 1) := by decide +kernel
theorem dX11_far_34 : decode cX11_far 34 = .ok (.getfield 84, 3) := by decide +kernel
theorem dX11_far_37 : decode cX11_far 37 = .ok (.aload_n 0, 1) := by decide +kernel
theorem dX11_far_38 : decode cX11_far 38 = .ok (.getfield 28, 3) := by decide +kernel
theorem dX11_far_41 : decode cX11_far 41 = .ok (.aload_n 0, 1) := by decide +kernel
theorem dX11_far_42 : decode cX11_far 42 = .ok (.getfield 42, 3) := by decide +kernel
theorem dX11_far_45 : decode cX11_far 45 = .ok (.iload_n 1, 1) := by decide +kernel
theorem dX11_far_46 : decode cX11_far 46 = .ok (.iload_n 2, 1) := by decide +kernel
theorem dX11_far_47 : decode cX11_far 47 = .ok (.iload_n 3, 1) := by decide +kernel
theorem dX11_far_48 : decode cX11_far 48 = .ok (.iconst 1, 1) := by decide +kernel
theorem dX11_far_49 : decode cX11_far 49 = .ok (.if_icmp .ne 7, 3) := by decide +kernel
theorem dX11_far_52 : decode cX11_far 52 = .ok (.iconst 1, 1) := by decide +kernel
theorem dX11_far_53 : decode cX11_far 53 = .ok (.goto 4, 3) := by decide +kernel
theorem dX11_far_56 : decode cX11_far 56 = .ok (.iconst 0, 1) := by decide +kernel
theorem dX11_far_57 : decode cX11_far 57 = .ok (.invokevirtual 278, 3) := by decide +kernel
theorem dX11_far_60 : decode cX11_far 60 = .ok (.ireturn, 1) := by decide +kernel
theorem dX11_waters_0 : decode cX11_waters 0 = .ok (.aload_n 0, 1) := by decide +kernel
theorem dX11_waters_1 : decode cX11_waters 1 = .ok (.getfield 28, 3) := by decide +kernel
theorem dX11_waters_4 : decode cX11_waters 4 = .ok (.iload_n 1, 1) := by decide +kernel
theorem dX11_waters_5 : decode cX11_waters 5 = .ok (.invokevirtual 218, 3) := by decide +kernel
theorem dX11_waters_8 : decode cX11_waters 8 = .ok (.ifCond .eq 14, 3) := by decide +kernel
theorem dX11_waters_11 : decode cX11_waters 11 = .ok (.aload_n 0, 1) := by decide +kernel
theorem dX11_waters_12 : decode cX11_waters 12 = .ok (.getfield 28, 3) := by decide +kernel
theorem dX11_waters_15 : decode cX11_waters 15 = .ok (.iload_n 2, 1) := by decide +kernel
theorem dX11_waters_16 : decode cX11_waters 16 = .ok (.invokevirtual 218, 3) := by decide +kernel
theorem dX11_waters_19 : decode cX11_waters 19 = .ok (.ifCond .ne 5, 3) := by decide +kernel
theorem dX11_waters_22 : decode cX11_waters 22 = .ok (.iconst (-1), 1) := by decide +kernel
theorem dX11_waters_23 : decode cX11_waters 23 = .ok (.ireturn, 1) := by decide +kernel
theorem dX11_waters_24 : decode cX11_waters 24 = .ok (.aload_n 0, 1) := by decide +kernel
theorem dX11_waters_25 : decode cX11_waters 25 = .ok (.getfield 42, 3) := by decide +kernel
theorem dX11_waters_28 : decode cX11_waters 28 = .ok (.aload_n 0, 1) := by decide +kernel
theorem dX11_waters_29 : decode cX11_waters 29 = .ok (.getfield 28, 3) := by decide +kernel
theorem dX11_waters_32 : decode cX11_waters 32 = .ok (.iload_n 1, 1) := by decide +kernel
theorem dX11_waters_33 : decode cX11_waters 33 = .ok (.iload_n 2, 1) := by decide +kernel
theorem dX11_waters_34 : decode cX11_waters 34 = .ok (.invokevirtual 282, 3) := by decide +kernel
theorem dX11_waters_37 : decode cX11_waters 37 = .ok (.ireturn, 1) := by decide +kernel
theorem dX11_braid_0 : decode cX11_braid 0 = .ok (.aload_n 0, 1) := by decide +kernel
theorem dX11_braid_1 : decode cX11_braid 1 = .ok (.getfield 28, 3) := by decide +kernel
theorem dX11_braid_4 : decode cX11_braid 4 = .ok (.iload_n 1, 1) := by decide +kernel
theorem dX11_braid_5 : decode cX11_braid 5 = .ok (.invokevirtual 218, 3) := by decide +kernel
theorem dX11_braid_8 : decode cX11_braid 8 = .ok (.ifCond .eq 16, 3) := by decide +kernel
theorem dX11_braid_11 : decode cX11_braid 11 = .ok (.aload_n 0, 1) := by decide +kernel
theorem dX11_braid_12 : decode cX11_braid 12 = .ok (.getfield 42, 3) := by decide +kernel
theorem dX11_braid_15 : decode cX11_braid 15 = .ok (.getfield 224, 3) := by decide +kernel
theorem dX11_braid_18 : decode cX11_braid 18 = .ok (.iload_n 1, 1) := by decide +kernel
theorem dX11_braid_19 : decode cX11_braid 19 = .ok (.iaload, 1) := by decide +kernel
theorem dX11_braid_20 : decode cX11_braid 20 = .ok (.iconst 2, 1) := by decide +kernel
theorem dX11_braid_21 : decode cX11_braid 21 = .ok (.if_icmp .ge 5, 3) := by decide +kernel
theorem dX11_braid_24 : decode cX11_braid 24 = .ok (.iconst (-1), 1) := by decide +kernel
theorem dX11_braid_25 : decode cX11_braid 25 = .ok (.ireturn, 1) := by decide +kernel
theorem dX11_braid_26 : decode cX11_braid 26 = .ok (.aload_n 0, 1) := by decide +kernel
theorem dX11_braid_27 : decode cX11_braid 27 = .ok (.getfield 42, 3) := by decide +kernel
theorem dX11_braid_30 : decode cX11_braid 30 = .ok (.aload_n 0, 1) := by decide +kernel
theorem dX11_braid_31 : decode cX11_braid 31 = .ok (.getfield 28, 3) := by decide +kernel
theorem dX11_braid_34 : decode cX11_braid 34 = .ok (.iload_n 1, 1) := by decide +kernel
theorem dX11_braid_35 : decode cX11_braid 35 = .ok (.invokevirtual 286, 3) := by decide +kernel
theorem dX11_braid_38 : decode cX11_braid 38 = .ok (.ireturn, 1) := by decide +kernel
theorem dX11_streams_0 : decode cX11_streams 0 = .ok (.iload_n 1, 1) := by decide +kernel
theorem dX11_streams_1 : decode cX11_streams 1 = .ok (.iconst 1, 1) := by decide +kernel
theorem dX11_streams_2 : decode cX11_streams 2 = .ok (.if_icmp .ge 5, 3) := by decide +kernel
theorem dX11_streams_5 : decode cX11_streams 5 = .ok (.iconst (-1), 1) := by decide +kernel
theorem dX11_streams_6 : decode cX11_streams 6 = .ok (.ireturn, 1) := by decide +kernel
theorem dX11_streams_7 : decode cX11_streams 7 = .ok (.iload_n 2, 1) := by decide +kernel
theorem dX11_streams_8 : decode cX11_streams 8 = .ok (.tableswitch 74 0 2 #[28, 48, 61], 28) := by decide +kernel
theorem dX11_streams_36 : decode cX11_streams 36 = .ok (.aload_n 0, 1) := by decide +kernel
theorem dX11_streams_37 : decode cX11_streams 37 = .ok (.getfield 84, 3) := by decide +kernel
theorem dX11_streams_40 : decode cX11_streams 40 = .ok (.aload_n 0, 1) := by decide +kernel
theorem dX11_streams_41 : decode cX11_streams 41 = .ok (.getfield 28, 3) := by decide +kernel
theorem dX11_streams_44 : decode cX11_streams 44 = .ok (.aload_n 0, 1) := by decide +kernel
theorem dX11_streams_45 : decode cX11_streams 45 = .ok (.getfield 42, 3) := by decide +kernel
theorem dX11_streams_48 : decode cX11_streams 48 = .ok (.getfield 289, 3) := by decide +kernel
theorem dX11_streams_51 : decode cX11_streams 51 = .ok (.iload_n 1, 1) := by decide +kernel
theorem dX11_streams_52 : decode cX11_streams 52 = .ok (.invokevirtual 292, 3) := by decide +kernel
theorem dX11_streams_55 : decode cX11_streams 55 = .ok (.ireturn, 1) := by decide +kernel
theorem dX11_streams_56 : decode cX11_streams 56 = .ok (.aload_n 0, 1) := by decide +kernel
theorem dX11_streams_57 : decode cX11_streams 57 = .ok (.getfield 42, 3) := by decide +kernel
theorem dX11_streams_60 : decode cX11_streams 60 = .ok (.aload_n 0, 1) := by decide +kernel
theorem dX11_streams_61 : decode cX11_streams 61 = .ok (.getfield 28, 3) := by decide +kernel
theorem dX11_streams_64 : decode cX11_streams 64 = .ok (.iload_n 1, 1) := by decide +kernel
theorem dX11_streams_65 : decode cX11_streams 65 = .ok (.invokevirtual 296, 3) := by decide +kernel
theorem dX11_streams_68 : decode cX11_streams 68 = .ok (.ireturn, 1) := by decide +kernel
theorem dX11_streams_69 : decode cX11_streams 69 = .ok (.aload_n 0, 1) := by decide +kernel
theorem dX11_streams_70 : decode cX11_streams 70 = .ok (.getfield 42, 3) := by decide +kernel
theorem dX11_streams_73 : decode cX11_streams 73 = .ok (.aload_n 0, 1) := by decide +kernel
theorem dX11_streams_74 : decode cX11_streams 74 = .ok (.getfield 28, 3) := by decide +kernel
theorem dX11_streams_77 : decode cX11_streams 77 = .ok (.iload_n 1, 1) := by decide +kernel
theorem dX11_streams_78 : decode cX11_streams 78 = .ok (.invokevirtual 299, 3) := by decide +kernel
theorem dX11_streams_81 : decode cX11_streams 81 = .ok (.ireturn, 1) := by decide +kernel
theorem dX11_streams_82 : decode cX11_streams 82 = .ok (.iconst (-1), 1) := by decide +kernel
theorem dX11_streams_83 : decode cX11_streams 83 = .ok (.ireturn, 1) := by decide +kernel
theorem dX11_river_0 : decode cX11_river 0 = .ok (.iload_n 1, 1) := by decide +kernel
theorem dX11_river_1 : decode cX11_river 1 = .ok (.ifCond .lt 11, 3) := by decide +kernel
theorem dX11_river_4 : decode cX11_river 4 = .ok (.iload_n 1, 1) := by decide +kernel
theorem dX11_river_5 : decode cX11_river 5 = .ok (.aload_n 0, 1) := by decide +kernel
theorem dX11_river_6 : decode cX11_river 6 = .ok (.getfield 137, 3) := by decide +kernel
theorem dX11_river_9 : decode cX11_river 9 = .ok (.if_icmp .lt 5, 3) := by decide +kernel
theorem dX11_river_12 : decode cX11_river 12 = .ok (.iconst (-1), 1) := by decide +kernel
theorem dX11_river_13 : decode cX11_river 13 = .ok (.ireturn, 1) := by decide +kernel
theorem dX11_river_14 : decode cX11_river 14 = .ok (.iload_n 2, 1) := by decide +kernel
theorem dX11_river_15 : decode cX11_river 15 = .ok (.tableswitch 73 0 3 #[29, 38, 47, 64], 29) := by decide +kernel
theorem dX11_river_44 : decode cX11_river 44 = .ok (.aload_n 0, 1) := by decide +kernel
theorem dX11_river_45 : decode cX11_river 45 = .ok (.getfield 28, 3) := by decide +kernel
theorem dX11_river_48 : decode cX11_river 48 = .ok (.iload_n 1, 1) := by decide +kernel
theorem dX11_river_49 : decode cX11_river 49 = .ok (.invokevirtual 302, 3) := by decide +kernel
theorem dX11_river_52 : decode cX11_river 52 = .ok (.ireturn, 1) := by decide +kernel
theorem dX11_river_53 : decode cX11_river 53 = .ok (.aload_n 0, 1) := by decide +kernel
theorem dX11_river_54 : decode cX11_river 54 = .ok (.getfield 28, 3) := by decide +kernel
theorem dX11_river_57 : decode cX11_river 57 = .ok (.iload_n 1, 1) := by decide +kernel
theorem dX11_river_58 : decode cX11_river 58 = .ok (.invokevirtual 305, 3) := by decide +kernel
theorem dX11_river_61 : decode cX11_river 61 = .ok (.ireturn, 1) := by decide +kernel
theorem dX11_river_62 : decode cX11_river 62 = .ok (.aload_n 0, 1) := by decide +kernel
theorem dX11_river_63 : decode cX11_river 63 = .ok (.getfield 28, 3) := by decide +kernel
theorem dX11_river_66 : decode cX11_river 66 = .ok (.iload_n 1, 1) := by decide +kernel
theorem dX11_river_67 : decode cX11_river 67 = .ok (.invokevirtual 308, 3) := by decide +kernel
theorem dX11_river_70 : decode cX11_river 70 = .ok (.ifCond .eq 7, 3) := by decide +kernel
theorem dX11_river_73 : decode cX11_river 73 = .ok (.iconst 1, 1) := by decide +kernel
theorem dX11_river_74 : decode cX11_river 74 = .ok (.goto 4, 3) := by decide +kernel
theorem dX11_river_77 : decode cX11_river 77 = .ok (.iconst 0, 1) := by decide +kernel
theorem dX11_river_78 : decode cX11_river 78 = .ok (.ireturn, 1) := by decide +kernel
theorem dX11_river_79 : decode cX11_river 79 = .ok (.aload_n 0, 1) := by decide +kernel
theorem dX11_river_80 : decode cX11_river 80 = .ok (.getfield 28, 3) := by decide +kernel
theorem dX11_river_83 : decode cX11_river 83 = .ok (.iload_n 1, 1) := by decide +kernel
theorem dX11_river_84 : decode cX11_river 84 = .ok (.invokevirtual 311, 3) := by decide +kernel
theorem dX11_river_87 : decode cX11_river 87 = .ok (.ireturn, 1) := by decide +kernel
theorem dX11_river_88 : decode cX11_river 88 = .ok (.iconst (-1), 1) := by decide +kernel
theorem dX11_river_89 : decode cX11_river 89 = .ok (.ireturn, 1) := by decide +kernel
theorem dX11_canTurn_0 : decode cX11_canTurn 0 = .ok (.aload_n 0, 1) := by decide +kernel
theorem dX11_canTurn_1 : decode cX11_canTurn 1 = .ok (.getfield 28, 3) := by decide +kernel
theorem dX11_canTurn_4 : decode cX11_canTurn 4 = .ok (.iload_n 1, 1) := by decide +kernel
theorem dX11_canTurn_5 : decode cX11_canTurn 5 = .ok (.invokevirtual 193, 3) := by decide +kernel
theorem dX11_canTurn_8 : decode cX11_canTurn 8 = .ok (.ifCond .ne 5, 3) := by decide +kernel
theorem dX11_canTurn_11 : decode cX11_canTurn 11 = .ok (.iconst (-1), 1) := by decide +kernel
theorem dX11_canTurn_12 : decode cX11_canTurn 12 = .ok (.ireturn, 1) := by decide +kernel
theorem dX11_canTurn_13 : decode cX11_canTurn 13 = .ok (.aload_n 0, 1) := by decide +kernel
theorem dX11_canTurn_14 : decode cX11_canTurn 14 = .ok (.getfield 28, 3) := by decide +kernel
theorem dX11_canTurn_17 : decode cX11_canTurn 17 = .ok (.iload_n 1, 1) := by decide +kernel
theorem dX11_canTurn_18 : decode cX11_canTurn 18 = .ok (.invokevirtual 314, 3) := by decide +kernel
theorem dX11_canTurn_21 : decode cX11_canTurn 21 = .ok (.ifCond .eq 7, 3) := by decide +kernel
theorem dX11_canTurn_24 : decode cX11_canTurn 24 = .ok (.iconst 1, 1) := by decide +kernel
theorem dX11_canTurn_25 : decode cX11_canTurn 25 = .ok (.goto 4, 3) := by decide +kernel
theorem dX11_canTurn_28 : decode cX11_canTurn 28 = .ok (.iconst 0, 1) := by decide +kernel
theorem dX11_canTurn_29 : decode cX11_canTurn 29 = .ok (.ireturn, 1) := by decide +kernel
theorem dX11_would_0 : decode cX11_would 0 = .ok (.iload_n 2, 1) := by decide +kernel
theorem dX11_would_1 : decode cX11_would 1 = .ok (.ifCond .lt 30, 3) := by decide +kernel
theorem dX11_would_4 : decode cX11_would 4 = .ok (.iload_n 2, 1) := by decide +kernel
theorem dX11_would_5 : decode cX11_would 5 = .ok (.iconst 2, 1) := by decide +kernel
theorem dX11_would_6 : decode cX11_would 6 = .ok (.if_icmp .gt 25, 3) := by decide +kernel
theorem dX11_would_9 : decode cX11_would 9 = .ok (.aload_n 0, 1) := by decide +kernel
theorem dX11_would_10 : decode cX11_would 10 = .ok (.getfield 28, 3) := by decide +kernel
theorem dX11_would_13 : decode cX11_would 13 = .ok (.iload_n 1, 1) := by decide +kernel
theorem dX11_would_14 : decode cX11_would 14 = .ok (.invokevirtual 193, 3) := by decide +kernel
theorem dX11_would_17 : decode cX11_would 17 = .ok (.ifCond .eq 14, 3) := by decide +kernel
theorem dX11_would_20 : decode cX11_would 20 = .ok (.aload_n 0, 1) := by decide +kernel
theorem dX11_would_21 : decode cX11_would 21 = .ok (.getfield 28, 3) := by decide +kernel
theorem dX11_would_24 : decode cX11_would 24 = .ok (.iload_n 1, 1) := by decide +kernel
theorem dX11_would_25 : decode cX11_would 25 = .ok (.invokevirtual 314, 3) := by decide +kernel
theorem dX11_would_28 : decode cX11_would 28 = .ok (.ifCond .ne 5, 3) := by decide +kernel
theorem dX11_would_31 : decode cX11_would 31 = .ok (.iconst (-1), 1) := by decide +kernel
theorem dX11_would_32 : decode cX11_would 32 = .ok (.ireturn, 1) := by decide +kernel
theorem dX11_would_33 : decode cX11_would 33 = .ok (.aload_n 0, 1) := by decide +kernel
theorem dX11_would_34 : decode cX11_would 34 = .ok (.getfield 88, 3) := by decide +kernel
theorem dX11_would_37 : decode cX11_would 37 = .ok (.aload_n 0, 1) := by decide +kernel
theorem dX11_would_38 : decode cX11_would 38 = .ok (.getfield 28, 3) := by decide +kernel
theorem dX11_would_41 : decode cX11_would 41 = .ok (.invokevirtual 122, 3) := by decide +kernel
theorem dX11_would_44 : decode cX11_would 44 = .ok (.aload_n 0, 1) := by decide +kernel
theorem dX11_would_45 : decode cX11_would 45 = .ok (.getfield 88, 3) := by decide +kernel
theorem dX11_would_48 : decode cX11_would 48 = .ok (.iload_n 1, 1) := by decide +kernel
theorem dX11_would_49 : decode cX11_would 49 = .ok (.invokevirtual 317, 3) := by decide +kernel
theorem dX11_would_52 : decode cX11_would 52 = .ok (.aload_n 0, 1) := by decide +kernel
theorem dX11_would_53 : decode cX11_would 53 = .ok (.getfield 91, 3) := by decide +kernel
theorem dX11_would_56 : decode cX11_would 56 = .ok (.aload_n 0, 1) := by decide +kernel
theorem dX11_would_57 : decode cX11_would 57 = .ok (.getfield 88, 3) := by decide +kernel
theorem dX11_would_60 : decode cX11_would 60 = .ok (.invokevirtual 320, 3) := by decide +kernel
theorem dX11_would_63 : decode cX11_would 63 = .ok (.iload_n 2, 1) := by decide +kernel
theorem dX11_would_64 : decode cX11_would 64 = .ok (.lookupswitch 51 #[(0, 28), (1, 40)], 28) := by decide +kernel
theorem dX11_would_92 : decode cX11_would 92 = .ok (.aload_n 0, 1) := by decide +kernel
theorem dX11_would_93 : decode cX11_would 93 = .ok (.getfield 91, 3) := by decide +kernel
theorem dX11_would_96 : decode cX11_would 96 = .ok (.aload_n 0, 1) := by decide +kernel
theorem dX11_would_97 : decode cX11_would 97 = .ok (.getfield 88, 3) := by decide +kernel
theorem dX11_would_100 : decode cX11_would 100 = .ok (.invokevirtual 186, 3) := by decide +kernel
theorem dX11_would_103 : decode cX11_would 103 = .ok (.ireturn, 1) := by decide +kernel
theorem dX11_would_104 : decode cX11_would 104 = .ok (.aload_n 0, 1) := by decide +kernel
theorem dX11_would_105 : decode cX11_would 105 = .ok (.getfield 91, 3) := by decide +kernel
theorem dX11_would_108 : decode cX11_would 108 = .ok (.getfield 167, 3) := by decide +kernel
theorem dX11_would_111 : decode cX11_would 111 = .ok (.invokestatic 162, 3) := by decide +kernel
theorem dX11_would_114 : decode cX11_would 114 = .ok (.ireturn, 1) := by decide +kernel
theorem dX11_would_115 : decode cX11_would 115 = .ok (.aload_n 0, 1) := by decide +kernel
theorem dX11_would_116 : decode cX11_would 116 = .ok (.getfield 42, 3) := by decide +kernel
theorem dX11_would_119 : decode cX11_would 119 = .ok (.getfield 289, 3) := by decide +kernel
theorem dX11_would_122 : decode cX11_would 122 = .ok (.aload_n 0, 1) := by decide +kernel
theorem dX11_would_123 : decode cX11_would 123 = .ok (.getfield 91, 3) := by decide +kernel
theorem dX11_would_126 : decode cX11_would 126 = .ok (.getfield 289, 3) := by decide +kernel
theorem dX11_would_129 : decode cX11_would 129 = .ok (.aload_n 0, 1) := by decide +kernel
theorem dX11_would_130 : decode cX11_would 130 = .ok (.getfield 28, 3) := by decide +kernel
theorem dX11_would_133 : decode cX11_would 133 = .ok (.getfield 147, 3) := by decide +kernel
theorem dX11_would_136 : decode cX11_would 136 = .ok (.invokestatic 322, 3) := by decide +kernel
theorem dX11_would_139 : decode cX11_would 139 = .ok (.ireturn, 1) := by decide +kernel
theorem dX11_loss_0 : decode cX11_loss 0 = .ok (.aload_n 0, 1) := by decide +kernel
theorem dX11_loss_1 : decode cX11_loss 1 = .ok (.getfield 28, 3) := by decide +kernel
theorem dX11_loss_4 : decode cX11_loss 4 = .ok (.iload_n 1, 1) := by decide +kernel
theorem dX11_loss_5 : decode cX11_loss 5 = .ok (.invokevirtual 193, 3) := by decide +kernel
theorem dX11_loss_8 : decode cX11_loss 8 = .ok (.ifCond .eq 11, 3) := by decide +kernel
theorem dX11_loss_11 : decode cX11_loss 11 = .ok (.aload_n 0, 1) := by decide +kernel
theorem dX11_loss_12 : decode cX11_loss 12 = .ok (.iload_n 1, 1) := by decide +kernel
theorem dX11_loss_13 : decode cX11_loss 13 = .ok (.invokevirtual 326, 3) := by decide +kernel
theorem dX11_loss_16 : decode cX11_loss 16 = .ok (.goto 4, 3) := by decide +kernel
theorem dX11_loss_19 : decode cX11_loss 19 = .ok (.iconst (-1), 1) := by decide +kernel
theorem dX11_loss_20 : decode cX11_loss 20 = .ok (.ireturn, 1) := by decide +kernel
theorem dX11_starves_0 : decode cX11_starves 0 = .ok (.iload_n 1, 1) := by decide +kernel
theorem dX11_starves_1 : decode cX11_starves 1 = .ok (.ifCond .lt 8, 3) := by decide +kernel
theorem dX11_starves_4 : decode cX11_starves 4 = .ok (.iload_n 1, 1) := by decide +kernel
theorem dX11_starves_5 : decode cX11_starves 5 = .ok (.iconst 1, 1) := by decide +kernel
theorem dX11_starves_6 : decode cX11_starves 6 = .ok (.if_icmp .le 5, 3) := by decide +kernel
theorem dX11_starves_9 : decode cX11_starves 9 = .ok (.iconst (-1), 1) := by decide +kernel
theorem dX11_starves_10 : decode cX11_starves 10 = .ok (.ireturn, 1) := by decide +kernel
theorem dX11_starves_11 : decode cX11_starves 11 = .ok (.iconst (-1), 1) := by decide +kernel
theorem dX11_starves_12 : decode cX11_starves 12 = .ok (.istore_n 2, 1) := by decide +kernel
theorem dX11_starves_13 : decode cX11_starves 13 = .ok (.iconst (-1), 1) := by decide +kernel
theorem dX11_starves_14 : decode cX11_starves 14 = .ok (.istore_n 3, 1) := by decide +kernel
theorem dX11_starves_15 : decode cX11_starves 15 = .ok (.iconst 0, 1) := by decide +kernel
theorem dX11_starves_16 : decode cX11_starves 16 = .ok (.istore 4, 2) := by decide +kernel
theorem dX11_starves_18 : decode cX11_starves 18 = .ok (.iload 4, 2) := by decide +kernel
theorem dX11_starves_20 : decode cX11_starves 20 = .ok (.aload_n 0, 1) := by decide +kernel
theorem dX11_starves_21 : decode cX11_starves 21 = .ok (.getfield 28, 3) := by decide +kernel
theorem dX11_starves_24 : decode cX11_starves 24 = .ok (.getfield 147, 3) := by decide +kernel
theorem dX11_starves_27 : decode cX11_starves 27 = .ok (.if_icmp .ge 29, 3) := by decide +kernel
theorem dX11_starves_30 : decode cX11_starves 30 = .ok (.aload_n 0, 1) := by decide +kernel
theorem dX11_starves_31 : decode cX11_starves 31 = .ok (.iload 4, 2) := by decide +kernel
theorem dX11_starves_33 : decode cX11_starves 33 = .ok (.invokevirtual 326, 3) := by decide +kernel
theorem dX11_starves_36 : decode cX11_starves 36 = .ok (.istore 5, 2) := by decide +kernel
theorem dX11_starves_38 : decode cX11_starves 38 = .ok (.iload 5, 2) := by decide +kernel
theorem dX11_starves_40 : decode cX11_starves 40 = .ok (.iload_n 3, 1) := by decide +kernel
theorem dX11_starves_41 : decode cX11_starves 41 = .ok (.if_icmp .le 9, 3) := by decide +kernel
theorem dX11_starves_44 : decode cX11_starves 44 = .ok (.iload 5, 2) := by decide +kernel
theorem dX11_starves_46 : decode cX11_starves 46 = .ok (.istore_n 3, 1) := by decide +kernel
theorem dX11_starves_47 : decode cX11_starves 47 = .ok (.iload 4, 2) := by decide +kernel
theorem dX11_starves_49 : decode cX11_starves 49 = .ok (.istore_n 2, 1) := by decide +kernel
theorem dX11_starves_50 : decode cX11_starves 50 = .ok (.iinc 4 1, 3) := by decide +kernel
theorem dX11_starves_53 : decode cX11_starves 53 = .ok (.goto (-35), 3) := by decide +kernel
theorem dX11_starves_56 : decode cX11_starves 56 = .ok (.iload_n 1, 1) := by decide +kernel
theorem dX11_starves_57 : decode cX11_starves 57 = .ok (.ifCond .ne 7, 3) := by decide +kernel
theorem dX11_starves_60 : decode cX11_starves 60 = .ok (.iload_n 2, 1) := by decide +kernel
theorem dX11_starves_61 : decode cX11_starves 61 = .ok (.goto 4, 3) := by decide +kernel
theorem dX11_starves_64 : decode cX11_starves 64 = .ok (.iload_n 3, 1) := by decide +kernel
theorem dX11_starves_65 : decode cX11_starves 65 = .ok (.ireturn, 1) := by decide +kernel
theorem dX11_fewest_0 : decode cX11_fewest 0 = .ok (.aload_n 0, 1) := by decide +kernel
theorem dX11_fewest_1 : decode cX11_fewest 1 = .ok (.getfield 28, 3) := by decide +kernel
theorem dX11_fewest_4 : decode cX11_fewest 4 = .ok (.iload_n 1, 1) := by decide +kernel
theorem dX11_fewest_5 : decode cX11_fewest 5 = .ok (.invokevirtual 218, 3) := by decide +kernel
theorem dX11_fewest_8 : decode cX11_fewest 8 = .ok (.ifCond .eq 18, 3) := by decide +kernel
theorem dX11_fewest_11 : decode cX11_fewest 11 = .ok (.aload_n 0, 1) := by decide +kernel
theorem dX11_fewest_12 : decode cX11_fewest 12 = .ok (.getfield 42, 3) := by decide +kernel
theorem dX11_fewest_15 : decode cX11_fewest 15 = .ok (.getfield 159, 3) := by decide +kernel
theorem dX11_fewest_18 : decode cX11_fewest 18 = .ok (.iload_n 1, 1) := by decide +kernel
theorem dX11_fewest_19 : decode cX11_fewest 19 = .ok (.ishr, 1) := by decide +kernel
theorem dX11_fewest_20 : decode cX11_fewest 20 = .ok (.iconst 1, 1) := by decide +kernel
theorem dX11_fewest_21 : decode cX11_fewest 21 = .ok (.iand, 1) := by decide +kernel
theorem dX11_fewest_22 : decode cX11_fewest 22 = .ok (.iconst 1, 1) := by decide +kernel
theorem dX11_fewest_23 : decode cX11_fewest 23 = .ok (.if_icmp .ne 5, 3) := by decide +kernel
theorem dX11_fewest_26 : decode cX11_fewest 26 = .ok (.iconst (-1), 1) := by decide +kernel
theorem dX11_fewest_27 : decode cX11_fewest 27 = .ok (.ireturn, 1) := by decide +kernel
theorem dX11_fewest_28 : decode cX11_fewest 28 = .ok (.aload_n 0, 1) := by decide +kernel
theorem dX11_fewest_29 : decode cX11_fewest 29 = .ok (.getfield 84, 3) := by decide +kernel
theorem dX11_fewest_32 : decode cX11_fewest 32 = .ok (.aload_n 0, 1) := by decide +kernel
theorem dX11_fewest_33 : decode cX11_fewest 33 = .ok (.getfield 28, 3) := by decide +kernel
theorem dX11_fewest_36 : decode cX11_fewest 36 = .ok (.aload_n 0, 1) := by decide +kernel
theorem dX11_fewest_37 : decode cX11_fewest 37 = .ok (.getfield 42, 3) := by decide +kernel
theorem dX11_fewest_40 : decode cX11_fewest 40 = .ok (.getfield 159, 3) := by decide +kernel
theorem dX11_fewest_43 : decode cX11_fewest 43 = .ok (.iload_n 1, 1) := by decide +kernel
theorem dX11_fewest_44 : decode cX11_fewest 44 = .ok (.invokevirtual 329, 3) := by decide +kernel
theorem dX11_fewest_47 : decode cX11_fewest 47 = .ok (.ireturn, 1) := by decide +kernel
theorem dX11_wave_0 : decode cX11_wave 0 = .ok (.aload_n 0, 1) := by decide +kernel
theorem dX11_wave_1 : decode cX11_wave 1 = .ok (.getfield 28, 3) := by decide +kernel
theorem dX11_wave_4 : decode cX11_wave 4 = .ok (.iload_n 1, 1) := by decide +kernel
theorem dX11_wave_5 : decode cX11_wave 5 = .ok (.invokevirtual 218, 3) := by decide +kernel
theorem dX11_wave_8 : decode cX11_wave 8 = .ok (.ifCond .ne 5, 3) := by decide +kernel
theorem dX11_wave_11 : decode cX11_wave 11 = .ok (.iconst (-1), 1) := by decide +kernel
theorem dX11_wave_12 : decode cX11_wave 12 = .ok (.ireturn, 1) := by decide +kernel
theorem dX11_wave_13 : decode cX11_wave 13 = .ok (.aload_n 0, 1) := by decide +kernel
theorem dX11_wave_14 : decode cX11_wave 14 = .ok (.getfield 84, 3) := by decide +kernel
theorem dX11_wave_17 : decode cX11_wave 17 = .ok (.aload_n 0, 1) := by decide +kernel
theorem dX11_wave_18 : decode cX11_wave 18 = .ok (.getfield 28, 3) := by decide +kernel
theorem dX11_wave_21 : decode cX11_wave 21 = .ok (.aload_n 0, 1) := by decide +kernel
theorem dX11_wave_22 : decode cX11_wave 22 = .ok (.getfield 42, 3) := by decide +kernel
theorem dX11_wave_25 : decode cX11_wave 25 = .ok (.getfield 159, 3) := by decide +kernel
theorem dX11_wave_28 : decode cX11_wave 28 = .ok (.aload_n 0, 1) := by decide +kernel
theorem dX11_wave_29 : decode cX11_wave 29 = .ok (.getfield 49, 3) := by decide +kernel
theorem dX11_wave_32 : decode cX11_wave 32 = .ok (.iconst 0, 1) := by decide +kernel
theorem dX11_wave_33 : decode cX11_wave 33 = .ok (.aaload, 1) := by decide +kernel
theorem dX11_wave_34 : decode cX11_wave 34 = .ok (.getfield 332, 3) := by decide +kernel
theorem dX11_wave_37 : decode cX11_wave 37 = .ok (.iload_n 1, 1) := by decide +kernel
theorem dX11_wave_38 : decode cX11_wave 38 = .ok (.invokevirtual 335, 3) := by decide +kernel
theorem dX11_wave_41 : decode cX11_wave 41 = .ok (.iload_n 2, 1) := by decide +kernel
theorem dX11_wave_42 : decode cX11_wave 42 = .ok (.tableswitch 62 0 3 #[30, 38, 46, 54], 30) := by decide +kernel
theorem dX11_wave_72 : decode cX11_wave 72 = .ok (.aload_n 0, 1) := by decide +kernel
theorem dX11_wave_73 : decode cX11_wave 73 = .ok (.getfield 84, 3) := by decide +kernel
theorem dX11_wave_76 : decode cX11_wave 76 = .ok (.invokevirtual 339, 3) := by decide +kernel
theorem dX11_wave_79 : decode cX11_wave 79 = .ok (.ireturn, 1) := by decide +kernel
theorem dX11_wave_80 : decode cX11_wave 80 = .ok (.aload_n 0, 1) := by decide +kernel
theorem dX11_wave_81 : decode cX11_wave 81 = .ok (.getfield 84, 3) := by decide +kernel
theorem dX11_wave_84 : decode cX11_wave 84 = .ok (.invokevirtual 343, 3) := by decide +kernel
theorem dX11_wave_87 : decode cX11_wave 87 = .ok (.ireturn, 1) := by decide +kernel
theorem dX11_wave_88 : decode cX11_wave 88 = .ok (.aload_n 0, 1) := by decide +kernel
theorem dX11_wave_89 : decode cX11_wave 89 = .ok (.getfield 84, 3) := by decide +kernel
theorem dX11_wave_92 : decode cX11_wave 92 = .ok (.invokevirtual 346, 3) := by decide +kernel
theorem dX11_wave_95 : decode cX11_wave 95 = .ok (.ireturn, 1) := by decide +kernel
theorem dX11_wave_96 : decode cX11_wave 96 = .ok (.aload_n 0, 1) := by decide +kernel
theorem dX11_wave_97 : decode cX11_wave 97 = .ok (.getfield 84, 3) := by decide +kernel
theorem dX11_wave_100 : decode cX11_wave 100 = .ok (.getfield 349, 3) := by decide +kernel
theorem dX11_wave_103 : decode cX11_wave 103 = .ok (.ireturn, 1) := by decide +kernel
theorem dX11_wave_104 : decode cX11_wave 104 = .ok (.iconst (-1), 1) := by decide +kernel
theorem dX11_wave_105 : decode cX11_wave 105 = .ok (.ireturn, 1) := by decide +kernel
theorem dX11_changed_0 : decode cX11_changed 0 = .ok (.iload_n 1, 1) := by decide +kernel
theorem dX11_changed_1 : decode cX11_changed 1 = .ok (.ifCond .lt 18, 3) := by decide +kernel
theorem dX11_changed_4 : decode cX11_changed 4 = .ok (.iload_n 1, 1) := by decide +kernel
theorem dX11_changed_5 : decode cX11_changed 5 = .ok (.iconst 4, 1) := by decide +kernel
theorem dX11_changed_6 : decode cX11_changed 6 = .ok (.if_icmp .ge 13, 3) := by decide +kernel
theorem dX11_changed_9 : decode cX11_changed 9 = .ok (.aload_n 0, 1) := by decide +kernel
theorem dX11_changed_10 : decode cX11_changed 10 = .ok (.getfield 63, 3) := by decide +kernel
theorem dX11_changed_13 : decode cX11_changed 13 = .ok (.getfield 352, 3) := by decide +kernel
theorem dX11_changed_16 : decode cX11_changed 16 = .ok (.ifCond .ne 5, 3) := by decide +kernel
theorem dX11_changed_19 : decode cX11_changed 19 = .ok (.iconst (-1), 1) := by decide +kernel
theorem dX11_changed_20 : decode cX11_changed 20 = .ok (.ireturn, 1) := by decide +kernel
theorem dX11_changed_21 : decode cX11_changed 21 = .ok (.aload_n 0, 1) := by decide +kernel
theorem dX11_changed_22 : decode cX11_changed 22 = .ok (.getfield 63, 3) := by decide +kernel
theorem dX11_changed_25 : decode cX11_changed 25 = .ok (.getfield 356, 3) := by decide +kernel
theorem dX11_changed_28 : decode cX11_changed 28 = .ok (.iload_n 1, 1) := by decide +kernel
theorem dX11_changed_29 : decode cX11_changed 29 = .ok (.iaload, 1) := by decide +kernel
theorem dX11_changed_30 : decode cX11_changed 30 = .ok (.ireturn, 1) := by decide +kernel
theorem dX11_see_0 : decode cX11_see 0 = .ok (.aload_n 0, 1) := by decide +kernel
theorem dX11_see_1 : decode cX11_see 1 = .ok (.getfield 70, 3) := by decide +kernel
theorem dX11_see_4 : decode cX11_see 4 = .ok (.aload_n 0, 1) := by decide +kernel
theorem dX11_see_5 : decode cX11_see 5 = .ok (.getfield 10, 3) := by decide +kernel
theorem dX11_see_8 : decode cX11_see 8 = .ok (.aload_n 0, 1) := by decide +kernel
theorem dX11_see_9 : decode cX11_see 9 = .ok (.getfield 28, 3) := by decide +kernel
theorem dX11_see_12 : decode cX11_see 12 = .ok (.getfield 147, 3) := by decide +kernel
theorem dX11_see_15 : decode cX11_see 15 = .ok (.invokevirtual 358, 3) := by decide +kernel
theorem dX11_see_18 : decode cX11_see 18 = .ok (.istore_n 1, 1) := by decide +kernel
theorem dX11_see_19 : decode cX11_see 19 = .ok (.aload_n 0, 1) := by decide +kernel
theorem dX11_see_20 : decode cX11_see 20 = .ok (.getfield 10, 3) := by decide +kernel
theorem dX11_see_23 : decode cX11_see 23 = .ok (.iconst 0, 1) := by decide +kernel
theorem dX11_see_24 : decode cX11_see 24 = .ok (.putfield 113, 3) := by decide +kernel
theorem dX11_see_27 : decode cX11_see 27 = .ok (.iload_n 1, 1) := by decide +kernel
theorem dX11_see_28 : decode cX11_see 28 = .ok (.ifCond .eq 13, 3) := by decide +kernel
theorem dX11_see_31 : decode cX11_see 31 = .ok (.aload_n 0, 1) := by decide +kernel
theorem dX11_see_32 : decode cX11_see 32 = .ok (.getfield 70, 3) := by decide +kernel
theorem dX11_see_35 : decode cX11_see 35 = .ok (.getfield 138, 3) := by decide +kernel
theorem dX11_see_38 : decode cX11_see 38 = .ok (.goto 8, 3) := by decide +kernel
theorem dX11_see_41 : decode cX11_see 41 = .ok (.aload_n 0, 1) := by decide +kernel
theorem dX11_see_42 : decode cX11_see 42 = .ok (.iconst 1, 1) := by decide +kernel
theorem dX11_see_43 : decode cX11_see 43 = .ok (.invokevirtual 105, 3) := by decide +kernel
theorem dX11_see_46 : decode cX11_see 46 = .ok (.ireturn, 1) := by decide +kernel
theorem dX11_fits_0 : decode cX11_fits 0 = .ok (.aload_n 0, 1) := by decide +kernel
theorem dX11_fits_1 : decode cX11_fits 1 = .ok (.getfield 70, 3) := by decide +kernel
theorem dX11_fits_4 : decode cX11_fits 4 = .ok (.aload_n 0, 1) := by decide +kernel
theorem dX11_fits_5 : decode cX11_fits 5 = .ok (.getfield 28, 3) := by decide +kernel
theorem dX11_fits_8 : decode cX11_fits 8 = .ok (.aload_n 0, 1) := by decide +kernel
theorem dX11_fits_9 : decode cX11_fits 9 = .ok (.getfield 42, 3) := by decide +kernel
theorem dX11_fits_12 : decode cX11_fits 12 = .ok (.getfield 271, 3) := by decide +kernel
theorem dX11_fits_15 : decode cX11_fits 15 = .ok (.invokevirtual 362, 3) := by decide +kernel
theorem dX11_fits_18 : decode cX11_fits 18 = .ok (.ireturn, 1) := by decide +kernel
theorem dX11_tells_0 : decode cX11_tells 0 = .ok (.aload_n 0, 1) := by decide +kernel
theorem dX11_tells_1 : decode cX11_tells 1 = .ok (.getfield 70, 3) := by decide +kernel
theorem dX11_tells_4 : decode cX11_tells 4 = .ok (.aload_n 0, 1) := by decide +kernel
theorem dX11_tells_5 : decode cX11_tells 5 = .ok (.getfield 28, 3) := by decide +kernel
theorem dX11_tells_8 : decode cX11_tells 8 = .ok (.aload_n 0, 1) := by decide +kernel
theorem dX11_tells_9 : decode cX11_tells 9 = .ok (.getfield 42, 3) := by decide +kernel
theorem dX11_tells_12 : decode cX11_tells 12 = .ok (.getfield 271, 3) := by decide +kernel
theorem dX11_tells_15 : decode cX11_tells 15 = .ok (.invokevirtual 362, 3) := by decide +kernel
theorem dX11_tells_18 : decode cX11_tells 18 = .ok (.istore_n 2, 1) := by decide +kernel
theorem dX11_tells_19 : decode cX11_tells 19 = .ok (.iload_n 2, 1) := by decide +kernel
theorem dX11_tells_20 : decode cX11_tells 20 = .ok (.iconst (-1), 1) := by decide +kernel
theorem dX11_tells_21 : decode cX11_tells 21 = .ok (.if_icmp .eq 7, 3) := by decide +kernel
theorem dX11_tells_24 : decode cX11_tells 24 = .ok (.iload_n 2, 1) := by decide +kernel
theorem dX11_tells_25 : decode cX11_tells 25 = .ok (.ifCond .ne 5, 3) := by decide +kernel
theorem dX11_tells_28 : decode cX11_tells 28 = .ok (.iconst (-1), 1) := by decide +kernel
theorem dX11_tells_29 : decode cX11_tells 29 = .ok (.ireturn, 1) := by decide +kernel
theorem dX11_tells_30 : decode cX11_tells 30 = .ok (.aload_n 0, 1) := by decide +kernel
theorem dX11_tells_31 : decode cX11_tells 31 = .ok (.getfield 42, 3) := by decide +kernel
theorem dX11_tells_34 : decode cX11_tells 34 = .ok (.aload_n 0, 1) := by decide +kernel
theorem dX11_tells_35 : decode cX11_tells 35 = .ok (.getfield 28, 3) := by decide +kernel
theorem dX11_tells_38 : decode cX11_tells 38 = .ok (.iload_n 2, 1) := by decide +kernel
theorem dX11_tells_39 : decode cX11_tells 39 = .ok (.invokevirtual 366, 3) := by decide +kernel
theorem dX11_tells_42 : decode cX11_tells 42 = .ok (.istore_n 3, 1) := by decide +kernel
theorem dX11_tells_43 : decode cX11_tells 43 = .ok (.iload_n 1, 1) := by decide +kernel
theorem dX11_tells_44 : decode cX11_tells 44 = .ok (.lookupswitch 53 #[(0, 28), (1, 30)], 28) := by decide +kernel
theorem dX11_tells_72 : decode cX11_tells 72 = .ok (.iload_n 3, 1) := by decide +kernel
theorem dX11_tells_73 : decode cX11_tells 73 = .ok (.ireturn, 1) := by decide +kernel
theorem dX11_tells_74 : decode cX11_tells 74 = .ok (.iload_n 3, 1) := by decide +kernel
theorem dX11_tells_75 : decode cX11_tells 75 = .ok (.iconst (-1), 1) := by decide +kernel
theorem dX11_tells_76 : decode cX11_tells 76 = .ok (.if_icmp .ne 7, 3) := by decide +kernel
theorem dX11_tells_79 : decode cX11_tells 79 = .ok (.iconst (-1), 1) := by decide +kernel
theorem dX11_tells_80 : decode cX11_tells 80 = .ok (.goto 16, 3) := by decide +kernel
theorem dX11_tells_83 : decode cX11_tells 83 = .ok (.aload_n 0, 1) := by decide +kernel
theorem dX11_tells_84 : decode cX11_tells 84 = .ok (.getfield 42, 3) := by decide +kernel
theorem dX11_tells_87 : decode cX11_tells 87 = .ok (.aload_n 0, 1) := by decide +kernel
theorem dX11_tells_88 : decode cX11_tells 88 = .ok (.getfield 28, 3) := by decide +kernel
theorem dX11_tells_91 : decode cX11_tells 91 = .ok (.iload_n 2, 1) := by decide +kernel
theorem dX11_tells_92 : decode cX11_tells 92 = .ok (.iload_n 3, 1) := by decide +kernel
theorem dX11_tells_93 : decode cX11_tells 93 = .ok (.invokevirtual 369, 3) := by decide +kernel
theorem dX11_tells_96 : decode cX11_tells 96 = .ok (.ireturn, 1) := by decide +kernel
theorem dX11_tells_97 : decode cX11_tells 97 = .ok (.iconst (-1), 1) := by decide +kernel
theorem dX11_tells_98 : decode cX11_tells 98 = .ok (.ireturn, 1) := by decide +kernel
theorem dX11_add_0 : decode cX11_add 0 = .ok (.aload_n 0, 1) := by decide +kernel
theorem dX11_add_1 : decode cX11_add 1 = .ok (.getfield 28, 3) := by decide +kernel
theorem dX11_add_4 : decode cX11_add 4 = .ok (.iload_n 1, 1) := by decide +kernel
theorem dX11_add_5 : decode cX11_add 5 = .ok (.iload_n 2, 1) := by decide +kernel
theorem dX11_add_6 : decode cX11_add 6 = .ok (.iload_n 3, 1) := by decide +kernel
theorem dX11_add_7 : decode cX11_add 7 = .ok (.iload 4, 2) := by decide +kernel
theorem dX11_add_9 : decode cX11_add 9 = .ok (.invokevirtual 372, 3) := by decide +kernel
theorem dX11_add_12 : decode cX11_add 12 = .ok (.ifCond .ne 9, 3) := by decide +kernel
theorem dX11_add_15 : decode cX11_add 15 = .ok (.aload_n 0, 1) := by decide +kernel
theorem dX11_add_16 : decode cX11_add 16 = .ok (.iconst 2, 1) := by decide +kernel
theorem dX11_add_17 : decode cX11_add 17 = .ok (.invokevirtual 105, 3) := by decide +kernel
theorem dX11_add_20 : decode cX11_add 20 = .ok (.ireturn, 1) := by decide +kernel
theorem dX11_add_21 : decode cX11_add 21 = .ok (.aload_n 0, 1) := by decide +kernel
theorem dX11_add_22 : decode cX11_add 22 = .ok (.invokevirtual 376, 3) := by decide +kernel
theorem dX11_add_25 : decode cX11_add 25 = .ok (.aload_n 0, 1) := by decide +kernel
theorem dX11_add_26 : decode cX11_add 26 = .ok (.getfield 28, 3) := by decide +kernel
theorem dX11_add_29 : decode cX11_add 29 = .ok (.iload_n 1, 1) := by decide +kernel
theorem dX11_add_30 : decode cX11_add 30 = .ok (.iload_n 2, 1) := by decide +kernel
theorem dX11_add_31 : decode cX11_add 31 = .ok (.iload_n 3, 1) := by decide +kernel
theorem dX11_add_32 : decode cX11_add 32 = .ok (.iload 4, 2) := by decide +kernel
theorem dX11_add_34 : decode cX11_add 34 = .ok (.iconst (-1), 1) := by decide +kernel
theorem dX11_add_35 : decode cX11_add 35 = .ok (.invokevirtual 379, 3) := by decide +kernel
theorem dX11_add_38 : decode cX11_add 38 = .ok (.aload_n 0, 1) := by decide +kernel
theorem dX11_add_39 : decode cX11_add 39 = .ok (.invokevirtual 383, 3) := by decide +kernel
theorem dX11_add_42 : decode cX11_add 42 = .ok (.aload_n 0, 1) := by decide +kernel
theorem dX11_add_43 : decode cX11_add 43 = .ok (.getfield 28, 3) := by decide +kernel
theorem dX11_add_46 : decode cX11_add 46 = .ok (.getfield 147, 3) := by decide +kernel
theorem dX11_add_49 : decode cX11_add 49 = .ok (.iconst 1, 1) := by decide +kernel
theorem dX11_add_50 : decode cX11_add 50 = .ok (.isub, 1) := by decide +kernel
theorem dX11_add_51 : decode cX11_add 51 = .ok (.ireturn, 1) := by decide +kernel
theorem dX11_drop_0 : decode cX11_drop 0 = .ok (.aload_n 0, 1) := by decide +kernel
theorem dX11_drop_1 : decode cX11_drop 1 = .ok (.getfield 28, 3) := by decide +kernel
theorem dX11_drop_4 : decode cX11_drop 4 = .ok (.iload_n 1, 1) := by decide +kernel
theorem dX11_drop_5 : decode cX11_drop 5 = .ok (.invokevirtual 193, 3) := by decide +kernel
theorem dX11_drop_8 : decode cX11_drop 8 = .ok (.ifCond .ne 11, 3) := by decide +kernel
theorem dX11_drop_11 : decode cX11_drop 11 = .ok (.aload_n 0, 1) := by decide +kernel
theorem dX11_drop_12 : decode cX11_drop 12 = .ok (.iconst 2, 1) := by decide +kernel
theorem dX11_drop_13 : decode cX11_drop 13 = .ok (.invokevirtual 105, 3) := by decide +kernel
theorem dX11_drop_16 : decode cX11_drop 16 = .ok (.pop, 1) := by decide +kernel
theorem dX11_drop_17 : decode cX11_drop 17 = .ok (.iconst 0, 1) := by decide +kernel
theorem dX11_drop_18 : decode cX11_drop 18 = .ok (.ireturn, 1) := by decide +kernel
theorem dX11_drop_19 : decode cX11_drop 19 = .ok (.aload_n 0, 1) := by decide +kernel
theorem dX11_drop_20 : decode cX11_drop 20 = .ok (.invokevirtual 376, 3) := by decide +kernel
theorem dX11_drop_23 : decode cX11_drop 23 = .ok (.aload_n 0, 1) := by decide +kernel
theorem dX11_drop_24 : decode cX11_drop 24 = .ok (.getfield 28, 3) := by decide +kernel
theorem dX11_drop_27 : decode cX11_drop 27 = .ok (.iload_n 1, 1) := by decide +kernel
theorem dX11_drop_28 : decode cX11_drop 28 = .ok (.invokevirtual 386, 3) := by decide +kernel
theorem dX11_drop_31 : decode cX11_drop 31 = .ok (.aload_n 0, 1) := by decide +kernel
theorem dX11_drop_32 : decode cX11_drop 32 = .ok (.invokevirtual 383, 3) := by decide +kernel
theorem dX11_drop_35 : decode cX11_drop 35 = .ok (.iconst 1, 1) := by decide +kernel
theorem dX11_drop_36 : decode cX11_drop 36 = .ok (.ireturn, 1) := by decide +kernel
theorem dX11_cut_0 : decode cX11_cut 0 = .ok (.aload_n 0, 1) := by decide +kernel
theorem dX11_cut_1 : decode cX11_cut 1 = .ok (.getfield 28, 3) := by decide +kernel
theorem dX11_cut_4 : decode cX11_cut 4 = .ok (.iload_n 1, 1) := by decide +kernel
theorem dX11_cut_5 : decode cX11_cut 5 = .ok (.iload_n 2, 1) := by decide +kernel
theorem dX11_cut_6 : decode cX11_cut 6 = .ok (.invokevirtual 388, 3) := by decide +kernel
theorem dX11_cut_9 : decode cX11_cut 9 = .ok (.ifCond .ne 9, 3) := by decide +kernel
theorem dX11_cut_12 : decode cX11_cut 12 = .ok (.aload_n 0, 1) := by decide +kernel
theorem dX11_cut_13 : decode cX11_cut 13 = .ok (.iconst 2, 1) := by decide +kernel
theorem dX11_cut_14 : decode cX11_cut 14 = .ok (.invokevirtual 105, 3) := by decide +kernel
theorem dX11_cut_17 : decode cX11_cut 17 = .ok (.ireturn, 1) := by decide +kernel
theorem dX11_cut_18 : decode cX11_cut 18 = .ok (.aload_n 0, 1) := by decide +kernel
theorem dX11_cut_19 : decode cX11_cut 19 = .ok (.invokevirtual 376, 3) := by decide +kernel
theorem dX11_cut_22 : decode cX11_cut 22 = .ok (.aload_n 0, 1) := by decide +kernel
theorem dX11_cut_23 : decode cX11_cut 23 = .ok (.iload_n 1, 1) := by decide +kernel
theorem dX11_cut_24 : decode cX11_cut 24 = .ok (.iload_n 2, 1) := by decide +kernel
theorem dX11_cut_25 : decode cX11_cut 25 = .ok (.invokevirtual 392, 3) := by decide +kernel
theorem dX11_cut_28 : decode cX11_cut 28 = .ok (.aload_n 0, 1) := by decide +kernel
theorem dX11_cut_29 : decode cX11_cut 29 = .ok (.invokevirtual 383, 3) := by decide +kernel
theorem dX11_cut_32 : decode cX11_cut 32 = .ok (.aload_n 0, 1) := by decide +kernel
theorem dX11_cut_33 : decode cX11_cut 33 = .ok (.getfield 28, 3) := by decide +kernel
theorem dX11_cut_36 : decode cX11_cut 36 = .ok (.getfield 156, 3) := by decide +kernel
theorem dX11_cut_39 : decode cX11_cut 39 = .ok (.iconst 1, 1) := by decide +kernel
theorem dX11_cut_40 : decode cX11_cut 40 = .ok (.isub, 1) := by decide +kernel
theorem dX11_cut_41 : decode cX11_cut 41 = .ok (.ireturn, 1) := by decide +kernel
theorem dX11_turn_0 : decode cX11_turn 0 = .ok (.aload_n 0, 1) := by decide +kernel
theorem dX11_turn_1 : decode cX11_turn 1 = .ok (.getfield 28, 3) := by decide +kernel
theorem dX11_turn_4 : decode cX11_turn 4 = .ok (.iload_n 1, 1) := by decide +kernel
theorem dX11_turn_5 : decode cX11_turn 5 = .ok (.invokevirtual 193, 3) := by decide +kernel
theorem dX11_turn_8 : decode cX11_turn 8 = .ok (.ifCond .eq 14, 3) := by decide +kernel
theorem dX11_turn_11 : decode cX11_turn 11 = .ok (.aload_n 0, 1) := by decide +kernel
theorem dX11_turn_12 : decode cX11_turn 12 = .ok (.getfield 28, 3) := by decide +kernel
theorem dX11_turn_15 : decode cX11_turn 15 = .ok (.iload_n 1, 1) := by decide +kernel
theorem dX11_turn_16 : decode cX11_turn 16 = .ok (.invokevirtual 314, 3) := by decide +kernel
theorem dX11_turn_19 : decode cX11_turn 19 = .ok (.ifCond .ne 11, 3) := by decide +kernel
theorem dX11_turn_22 : decode cX11_turn 22 = .ok (.aload_n 0, 1) := by decide +kernel
theorem dX11_turn_23 : decode cX11_turn 23 = .ok (.iconst 3, 1) := by decide +kernel
theorem dX11_turn_24 : decode cX11_turn 24 = .ok (.invokevirtual 105, 3) := by decide +kernel
theorem dX11_turn_27 : decode cX11_turn 27 = .ok (.pop, 1) := by decide +kernel
theorem dX11_turn_28 : decode cX11_turn 28 = .ok (.iconst 0, 1) := by decide +kernel
theorem dX11_turn_29 : decode cX11_turn 29 = .ok (.ireturn, 1) := by decide +kernel
theorem dX11_turn_30 : decode cX11_turn 30 = .ok (.aload_n 0, 1) := by decide +kernel
theorem dX11_turn_31 : decode cX11_turn 31 = .ok (.invokevirtual 376, 3) := by decide +kernel
theorem dX11_turn_34 : decode cX11_turn 34 = .ok (.aload_n 0, 1) := by decide +kernel
theorem dX11_turn_35 : decode cX11_turn 35 = .ok (.getfield 28, 3) := by decide +kernel
theorem dX11_turn_38 : decode cX11_turn 38 = .ok (.iload_n 1, 1) := by decide +kernel
theorem dX11_turn_39 : decode cX11_turn 39 = .ok (.invokevirtual 317, 3) := by decide +kernel
theorem dX11_turn_42 : decode cX11_turn 42 = .ok (.aload_n 0, 1) := by decide +kernel
theorem dX11_turn_43 : decode cX11_turn 43 = .ok (.invokevirtual 383, 3) := by decide +kernel
theorem dX11_turn_46 : decode cX11_turn 46 = .ok (.iconst 1, 1) := by decide +kernel
theorem dX11_turn_47 : decode cX11_turn 47 = .ok (.ireturn, 1) := by decide +kernel
theorem dX11_gives_0 : decode cX11_gives 0 = .ok (.aload_n 0, 1) := by decide +kernel
theorem dX11_gives_1 : decode cX11_gives 1 = .ok (.getfield 28, 3) := by decide +kernel
theorem dX11_gives_4 : decode cX11_gives 4 = .ok (.iload_n 1, 1) := by decide +kernel
theorem dX11_gives_5 : decode cX11_gives 5 = .ok (.invokevirtual 193, 3) := by decide +kernel
theorem dX11_gives_8 : decode cX11_gives 8 = .ok (.ifCond .eq 26, 3) := by decide +kernel
theorem dX11_gives_11 : decode cX11_gives 11 = .ok (.iload_n 2, 1) := by decide +kernel
theorem dX11_gives_12 : decode cX11_gives 12 = .ok (.ifCond .lt 22, 3) := by decide +kernel
theorem dX11_gives_15 : decode cX11_gives 15 = .ok (.iload_n 2, 1) := by decide +kernel
theorem dX11_gives_16 : decode cX11_gives 16 = .ok (.bipush 99, 2) := by decide +kernel
theorem dX11_gives_18 : decode cX11_gives 18 = .ok (.if_icmp .gt 16, 3) := by decide +kernel
theorem dX11_gives_21 : decode cX11_gives 21 = .ok (.aload_n 0, 1) := by decide +kernel
theorem dX11_gives_22 : decode cX11_gives 22 = .ok (.getfield 28, 3) := by decide +kernel
theorem dX11_gives_25 : decode cX11_gives 25 = .ok (.getfield 206, 3) := by decide +kernel
theorem dX11_gives_28 : decode cX11_gives 28 = .ok (.iload_n 1, 1) := by decide +kernel
theorem dX11_gives_29 : decode cX11_gives 29 = .ok (.iaload, 1) := by decide +kernel
theorem dX11_gives_30 : decode cX11_gives 30 = .ok (.iload_n 2, 1) := by decide +kernel
theorem dX11_gives_31 : decode cX11_gives 31 = .ok (.if_icmp .ne 11, 3) := by decide +kernel
theorem dX11_gives_34 : decode cX11_gives 34 = .ok (.aload_n 0, 1) := by decide +kernel
theorem dX11_gives_35 : decode cX11_gives 35 = .ok (.iconst 3, 1) := by decide +kernel
theorem dX11_gives_36 : decode cX11_gives 36 = .ok (.invokevirtual 105, 3) := by decide +kernel
theorem dX11_gives_39 : decode cX11_gives 39 = .ok (.pop, 1) := by decide +kernel
theorem dX11_gives_40 : decode cX11_gives 40 = .ok (.iconst 0, 1) := by decide +kernel
theorem dX11_gives_41 : decode cX11_gives 41 = .ok (.ireturn, 1) := by decide +kernel
theorem dX11_gives_42 : decode cX11_gives 42 = .ok (.aload_n 0, 1) := by decide +kernel
theorem dX11_gives_43 : decode cX11_gives 43 = .ok (.invokevirtual 376, 3) := by decide +kernel
theorem dX11_gives_46 : decode cX11_gives 46 = .ok (.aload_n 0, 1) := by decide +kernel
theorem dX11_gives_47 : decode cX11_gives 47 = .ok (.getfield 28, 3) := by decide +kernel
theorem dX11_gives_50 : decode cX11_gives 50 = .ok (.getfield 206, 3) := by decide +kernel
theorem dX11_gives_53 : decode cX11_gives 53 = .ok (.iload_n 1, 1) := by decide +kernel
theorem dX11_gives_54 : decode cX11_gives 54 = .ok (.iload_n 2, 1) := by decide +kernel
theorem dX11_gives_55 : decode cX11_gives 55 = .ok (.iastore, 1) := by decide +kernel
theorem dX11_gives_56 : decode cX11_gives 56 = .ok (.aload_n 0, 1) := by decide +kernel
theorem dX11_gives_57 : decode cX11_gives 57 = .ok (.invokevirtual 383, 3) := by decide +kernel
theorem dX11_gives_60 : decode cX11_gives 60 = .ok (.iconst 1, 1) := by decide +kernel
theorem dX11_gives_61 : decode cX11_gives 61 = .ok (.ireturn, 1) := by decide +kernel
theorem dX11_call_0 : decode cX11_call 0 = .ok (.aload_n 0, 1) := by decide +kernel
theorem dX11_call_1 : decode cX11_call 1 = .ok (.getfield 28, 3) := by decide +kernel
theorem dX11_call_4 : decode cX11_call 4 = .ok (.iload_n 1, 1) := by decide +kernel
theorem dX11_call_5 : decode cX11_call 5 = .ok (.invokevirtual 193, 3) := by decide +kernel
theorem dX11_call_8 : decode cX11_call 8 = .ok (.ifCond .eq 29, 3) := by decide +kernel
theorem dX11_call_11 : decode cX11_call 11 = .ok (.iload_n 2, 1) := by decide +kernel
theorem dX11_call_12 : decode cX11_call 12 = .ok (.iconst (-1), 1) := by decide +kernel
theorem dX11_call_13 : decode cX11_call 13 = .ok (.if_icmp .lt 24, 3) := by decide +kernel
theorem dX11_call_16 : decode cX11_call 16 = .ok (.iload_n 2, 1) := by decide +kernel
theorem dX11_call_17 : decode cX11_call 17 = .ok (.aload_n 0, 1) := by decide +kernel
theorem dX11_call_18 : decode cX11_call 18 = .ok (.getfield 137, 3) := by decide +kernel
theorem dX11_call_21 : decode cX11_call 21 = .ok (.if_icmp .ge 16, 3) := by decide +kernel
theorem dX11_call_24 : decode cX11_call 24 = .ok (.aload_n 0, 1) := by decide +kernel
theorem dX11_call_25 : decode cX11_call 25 = .ok (.getfield 28, 3) := by decide +kernel
theorem dX11_call_28 : decode cX11_call 28 = .ok (.getfield 209, 3) := by decide +kernel
theorem dX11_call_31 : decode cX11_call 31 = .ok (.iload_n 1, 1) := by decide +kernel
theorem dX11_call_32 : decode cX11_call 32 = .ok (.iaload, 1) := by decide +kernel
theorem dX11_call_33 : decode cX11_call 33 = .ok (.iload_n 2, 1) := by decide +kernel
theorem dX11_call_34 : decode cX11_call 34 = .ok (.if_icmp .ne 11, 3) := by decide +kernel
theorem dX11_call_37 : decode cX11_call 37 = .ok (.aload_n 0, 1) := by decide +kernel
theorem dX11_call_38 : decode cX11_call 38 = .ok (.iconst 3, 1) := by decide +kernel
theorem dX11_call_39 : decode cX11_call 39 = .ok (.invokevirtual 105, 3) := by decide +kernel
theorem dX11_call_42 : decode cX11_call 42 = .ok (.pop, 1) := by decide +kernel
theorem dX11_call_43 : decode cX11_call 43 = .ok (.iconst 0, 1) := by decide +kernel
theorem dX11_call_44 : decode cX11_call 44 = .ok (.ireturn, 1) := by decide +kernel
theorem dX11_call_45 : decode cX11_call 45 = .ok (.aload_n 0, 1) := by decide +kernel
theorem dX11_call_46 : decode cX11_call 46 = .ok (.invokevirtual 376, 3) := by decide +kernel
theorem dX11_call_49 : decode cX11_call 49 = .ok (.aload_n 0, 1) := by decide +kernel
theorem dX11_call_50 : decode cX11_call 50 = .ok (.getfield 28, 3) := by decide +kernel
theorem dX11_call_53 : decode cX11_call 53 = .ok (.getfield 209, 3) := by decide +kernel
theorem dX11_call_56 : decode cX11_call 56 = .ok (.iload_n 1, 1) := by decide +kernel
theorem dX11_call_57 : decode cX11_call 57 = .ok (.iload_n 2, 1) := by decide +kernel
theorem dX11_call_58 : decode cX11_call 58 = .ok (.iastore, 1) := by decide +kernel
theorem dX11_call_59 : decode cX11_call 59 = .ok (.aload_n 0, 1) := by decide +kernel
theorem dX11_call_60 : decode cX11_call 60 = .ok (.invokevirtual 383, 3) := by decide +kernel
theorem dX11_call_63 : decode cX11_call 63 = .ok (.iconst 1, 1) := by decide +kernel
theorem dX11_call_64 : decode cX11_call 64 = .ok (.ireturn, 1) := by decide +kernel
theorem dX11_chance_0 : decode cX11_chance 0 = .ok (.iload_n 1, 1) := by decide +kernel
theorem dX11_chance_1 : decode cX11_chance 1 = .ok (.iconst 1, 1) := by decide +kernel
theorem dX11_chance_2 : decode cX11_chance 2 = .ok (.if_icmp .lt 19, 3) := by decide +kernel
theorem dX11_chance_5 : decode cX11_chance 5 = .ok (.iload_n 1, 1) := by decide +kernel
theorem dX11_chance_6 : decode cX11_chance 6 = .ok (.bipush 40, 2) := by decide +kernel
theorem dX11_chance_8 : decode cX11_chance 8 = .ok (.if_icmp .gt 13, 3) := by decide +kernel
theorem dX11_chance_11 : decode cX11_chance 11 = .ok (.aload_n 0, 1) := by decide +kernel
theorem dX11_chance_12 : decode cX11_chance 12 = .ok (.getfield 28, 3) := by decide +kernel
theorem dX11_chance_15 : decode cX11_chance 15 = .ok (.getfield 147, 3) := by decide +kernel
theorem dX11_chance_18 : decode cX11_chance 18 = .ok (.ifCond .ne 9, 3) := by decide +kernel
theorem dX11_chance_21 : decode cX11_chance 21 = .ok (.aload_n 0, 1) := by decide +kernel
theorem dX11_chance_22 : decode cX11_chance 22 = .ok (.iconst 3, 1) := by decide +kernel
theorem dX11_chance_23 : decode cX11_chance 23 = .ok (.invokevirtual 105, 3) := by decide +kernel
theorem dX11_chance_26 : decode cX11_chance 26 = .ok (.ireturn, 1) := by decide +kernel
theorem dX11_chance_27 : decode cX11_chance 27 = .ok (.aload_n 0, 1) := by decide +kernel
theorem dX11_chance_28 : decode cX11_chance 28 = .ok (.invokevirtual 376, 3) := by decide +kernel
theorem dX11_chance_31 : decode cX11_chance 31 = .ok (.iconst 0, 1) := by decide +kernel
theorem dX11_chance_32 : decode cX11_chance 32 = .ok (.istore_n 2, 1) := by decide +kernel
theorem dX11_chance_33 : decode cX11_chance 33 = .ok (.iload_n 2, 1) := by decide +kernel
theorem dX11_chance_34 : decode cX11_chance 34 = .ok (.iload_n 1, 1) := by decide +kernel
theorem dX11_chance_35 : decode cX11_chance 35 = .ok (.if_icmp .ge 13, 3) := by decide +kernel
theorem dX11_chance_38 : decode cX11_chance 38 = .ok (.aload_n 0, 1) := by decide +kernel
theorem dX11_chance_39 : decode cX11_chance 39 = .ok (.invokevirtual 396, 3) := by decide +kernel
theorem dX11_chance_42 : decode cX11_chance 42 = .ok (.iinc 2 1, 3) := by decide +kernel
theorem dX11_chance_45 : decode cX11_chance 45 = .ok (.goto (-12), 3) := by decide +kernel
theorem dX11_chance_48 : decode cX11_chance 48 = .ok (.aload_n 0, 1) := by decide +kernel
theorem dX11_chance_49 : decode cX11_chance 49 = .ok (.invokevirtual 383, 3) := by decide +kernel
theorem dX11_chance_52 : decode cX11_chance 52 = .ok (.aload_n 0, 1) := by decide +kernel
theorem dX11_chance_53 : decode cX11_chance 53 = .ok (.getfield 28, 3) := by decide +kernel
theorem dX11_chance_56 : decode cX11_chance 56 = .ok (.getfield 147, 3) := by decide +kernel
theorem dX11_chance_59 : decode cX11_chance 59 = .ok (.ireturn, 1) := by decide +kernel
theorem dX11_undo_0 : decode cX11_undo 0 = .ok (.aload_n 0, 1) := by decide +kernel
theorem dX11_undo_1 : decode cX11_undo 1 = .ok (.getfield 56, 3) := by decide +kernel
theorem dX11_undo_4 : decode cX11_undo 4 = .ok (.getfield 174, 3) := by decide +kernel
theorem dX11_undo_7 : decode cX11_undo 7 = .ok (.ifCond .ne 11, 3) := by decide +kernel
theorem dX11_undo_10 : decode cX11_undo 10 = .ok (.aload_n 0, 1) := by decide +kernel
theorem dX11_undo_11 : decode cX11_undo 11 = .ok (.iconst 4, 1) := by decide +kernel
theorem dX11_undo_12 : decode cX11_undo 12 = .ok (.invokevirtual 105, 3) := by decide +kernel
theorem dX11_undo_15 : decode cX11_undo 15 = .ok (.pop, 1) := by decide +kernel
theorem dX11_undo_16 : decode cX11_undo 16 = .ok (.iconst 0, 1) := by decide +kernel
theorem dX11_undo_17 : decode cX11_undo 17 = .ok (.ireturn, 1) := by decide +kernel
theorem dX11_undo_18 : decode cX11_undo 18 = .ok (.aload_n 0, 1) := by decide +kernel
theorem dX11_undo_19 : decode cX11_undo 19 = .ok (.getfield 56, 3) := by decide +kernel
theorem dX11_undo_22 : decode cX11_undo 22 = .ok (.aload_n 0, 1) := by decide +kernel
theorem dX11_undo_23 : decode cX11_undo 23 = .ok (.getfield 28, 3) := by decide +kernel
theorem dX11_undo_26 : decode cX11_undo 26 = .ok (.invokevirtual 399, 3) := by decide +kernel
theorem dX11_undo_29 : decode cX11_undo 29 = .ok (.aload_n 0, 1) := by decide +kernel
theorem dX11_undo_30 : decode cX11_undo 30 = .ok (.getfield 63, 3) := by decide +kernel
theorem dX11_undo_33 : decode cX11_undo 33 = .ok (.iconst 0, 1) := by decide +kernel
theorem dX11_undo_34 : decode cX11_undo 34 = .ok (.putfield 352, 3) := by decide +kernel
theorem dX11_undo_37 : decode cX11_undo 37 = .ok (.aload_n 0, 1) := by decide +kernel
theorem dX11_undo_38 : decode cX11_undo 38 = .ok (.invokevirtual 144, 3) := by decide +kernel
theorem dX11_undo_41 : decode cX11_undo 41 = .ok (.iconst 1, 1) := by decide +kernel
theorem dX11_undo_42 : decode cX11_undo 42 = .ok (.ireturn, 1) := by decide +kernel
theorem dX11_seed_0 : decode cX11_seed 0 = .ok (.iload_n 1, 1) := by decide +kernel
theorem dX11_seed_1 : decode cX11_seed 1 = .ok (.ifCond .ge 11, 3) := by decide +kernel
theorem dX11_seed_4 : decode cX11_seed 4 = .ok (.aload_n 0, 1) := by decide +kernel
theorem dX11_seed_5 : decode cX11_seed 5 = .ok (.iconst 5, 1) := by decide +kernel
theorem dX11_seed_6 : decode cX11_seed 6 = .ok (.invokevirtual 105, 3) := by decide +kernel
theorem dX11_seed_9 : decode cX11_seed 9 = .ok (.pop, 1) := by decide +kernel
theorem dX11_seed_10 : decode cX11_seed 10 = .ok (.iconst 0, 1) := by decide +kernel
theorem dX11_seed_11 : decode cX11_seed 11 = .ok (.ireturn, 1) := by decide +kernel
theorem dX11_seed_12 : decode cX11_seed 12 = .ok (.aload_n 0, 1) := by decide +kernel
theorem dX11_seed_13 : decode cX11_seed 13 = .ok (.iload_n 1, 1) := by decide +kernel
theorem dX11_seed_14 : decode cX11_seed 14 = .ok (.putfield 97, 3) := by decide +kernel
theorem dX11_seed_17 : decode cX11_seed 17 = .ok (.iconst 1, 1) := by decide +kernel
theorem dX11_seed_18 : decode cX11_seed 18 = .ok (.ireturn, 1) := by decide +kernel
theorem dX11_image_0 : decode cX11_image 0 = .ok (.aload_n 0, 1) := by decide +kernel
theorem dX11_image_1 : decode cX11_image 1 = .ok (.getfield 77, 3) := by decide +kernel
theorem dX11_image_4 : decode cX11_image 4 = .ok (.aload_n 0, 1) := by decide +kernel
theorem dX11_image_5 : decode cX11_image 5 = .ok (.getfield 28, 3) := by decide +kernel
theorem dX11_image_8 : decode cX11_image 8 = .ok (.invokevirtual 402, 3) := by decide +kernel
theorem dX11_image_11 : decode cX11_image 11 = .ok (.aload_n 0, 1) := by decide +kernel
theorem dX11_image_12 : decode cX11_image 12 = .ok (.getfield 77, 3) := by decide +kernel
theorem dX11_image_15 : decode cX11_image 15 = .ok (.getfield 405, 3) := by decide +kernel
theorem dX11_image_18 : decode cX11_image 18 = .ok (.ireturn, 1) := by decide +kernel
theorem dX11_octet_0 : decode cX11_octet 0 = .ok (.iload_n 1, 1) := by decide +kernel
theorem dX11_octet_1 : decode cX11_octet 1 = .ok (.ifCond .lt 26, 3) := by decide +kernel
theorem dX11_octet_4 : decode cX11_octet 4 = .ok (.iload_n 1, 1) := by decide +kernel
theorem dX11_octet_5 : decode cX11_octet 5 = .ok (.aload_n 0, 1) := by decide +kernel
theorem dX11_octet_6 : decode cX11_octet 6 = .ok (.getfield 77, 3) := by decide +kernel
theorem dX11_octet_9 : decode cX11_octet 9 = .ok (.getfield 405, 3) := by decide +kernel
theorem dX11_octet_12 : decode cX11_octet 12 = .ok (.if_icmp .ge 15, 3) := by decide +kernel
theorem dX11_octet_15 : decode cX11_octet 15 = .ok (.aload_n 0, 1) := by decide +kernel
theorem dX11_octet_16 : decode cX11_octet 16 = .ok (.getfield 77, 3) := by decide +kernel
theorem dX11_octet_19 : decode cX11_octet 19 = .ok (.getfield 406, 3) := by decide +kernel
theorem dX11_octet_22 : decode cX11_octet 22 = .ok (.iload_n 1, 1) := by decide +kernel
theorem dX11_octet_23 : decode cX11_octet 23 = .ok (.iaload, 1) := by decide +kernel
theorem dX11_octet_24 : decode cX11_octet 24 = .ok (.goto 4, 3) := by decide +kernel
theorem dX11_octet_27 : decode cX11_octet 27 = .ok (.iconst (-1), 1) := by decide +kernel
theorem dX11_octet_28 : decode cX11_octet 28 = .ok (.ireturn, 1) := by decide +kernel
theorem dX11_on_0 : decode cX11_on 0 = .ok (.aload_n 0, 1) := by decide +kernel
theorem dX11_on_1 : decode cX11_on 1 = .ok (.getfield 10, 3) := by decide +kernel
theorem dX11_on_4 : decode cX11_on 4 = .ok (.aload_n 0, 1) := by decide +kernel
theorem dX11_on_5 : decode cX11_on 5 = .ok (.getfield 88, 3) := by decide +kernel
theorem dX11_on_8 : decode cX11_on 8 = .ok (.aload_n 0, 1) := by decide +kernel
theorem dX11_on_9 : decode cX11_on 9 = .ok (.getfield 137, 3) := by decide +kernel
theorem dX11_on_12 : decode cX11_on 12 = .ok (.invokestatic 409, 3) := by decide +kernel
theorem dX11_on_15 : decode cX11_on 15 = .ok (.istore_n 1, 1) := by decide +kernel
theorem dX11_on_16 : decode cX11_on 16 = .ok (.aload_n 0, 1) := by decide +kernel
theorem dX11_on_17 : decode cX11_on 17 = .ok (.getfield 10, 3) := by decide +kernel
theorem dX11_on_20 : decode cX11_on 20 = .ok (.iconst 0, 1) := by decide +kernel
theorem dX11_on_21 : decode cX11_on 21 = .ok (.putfield 113, 3) := by decide +kernel
theorem dX11_on_24 : decode cX11_on 24 = .ok (.iload_n 1, 1) := by decide +kernel
theorem dX11_on_25 : decode cX11_on 25 = .ok (.ifCond .ne 11, 3) := by decide +kernel
theorem dX11_on_28 : decode cX11_on 28 = .ok (.aload_n 0, 1) := by decide +kernel
theorem dX11_on_29 : decode cX11_on 29 = .ok (.iconst 5, 1) := by decide +kernel
theorem dX11_on_30 : decode cX11_on 30 = .ok (.invokevirtual 105, 3) := by decide +kernel
theorem dX11_on_33 : decode cX11_on 33 = .ok (.pop, 1) := by decide +kernel
theorem dX11_on_34 : decode cX11_on 34 = .ok (.iconst 0, 1) := by decide +kernel
theorem dX11_on_35 : decode cX11_on 35 = .ok (.ireturn, 1) := by decide +kernel
theorem dX11_on_36 : decode cX11_on 36 = .ok (.aload_n 0, 1) := by decide +kernel
theorem dX11_on_37 : decode cX11_on 37 = .ok (.getfield 28, 3) := by decide +kernel
theorem dX11_on_40 : decode cX11_on 40 = .ok (.aload_n 0, 1) := by decide +kernel
theorem dX11_on_41 : decode cX11_on 41 = .ok (.getfield 88, 3) := by decide +kernel
theorem dX11_on_44 : decode cX11_on 44 = .ok (.invokevirtual 122, 3) := by decide +kernel
theorem dX11_on_47 : decode cX11_on 47 = .ok (.aload_n 0, 1) := by decide +kernel
theorem dX11_on_48 : decode cX11_on 48 = .ok (.getfield 32, 3) := by decide +kernel
theorem dX11_on_51 : decode cX11_on 51 = .ok (.iconst 0, 1) := by decide +kernel
theorem dX11_on_52 : decode cX11_on 52 = .ok (.invokestatic 412, 3) := by decide +kernel
theorem dX11_on_55 : decode cX11_on 55 = .ok (.aload_n 0, 1) := by decide +kernel
theorem dX11_on_56 : decode cX11_on 56 = .ok (.invokevirtual 141, 3) := by decide +kernel
theorem dX11_on_59 : decode cX11_on 59 = .ok (.aload_n 0, 1) := by decide +kernel
theorem dX11_on_60 : decode cX11_on 60 = .ok (.invokevirtual 144, 3) := by decide +kernel
theorem dX11_on_63 : decode cX11_on 63 = .ok (.iconst 1, 1) := by decide +kernel
theorem dX11_on_64 : decode cX11_on 64 = .ok (.ireturn, 1) := by decide +kernel
theorem dX11_status_0 : decode cX11_status 0 = .ok (.iload_n 1, 1) := by decide +kernel
theorem dX11_status_1 : decode cX11_status 1 = .ok (.ifCond .lt 18, 3) := by decide +kernel
theorem dX11_status_4 : decode cX11_status 4 = .ok (.iload_n 1, 1) := by decide +kernel
theorem dX11_status_5 : decode cX11_status 5 = .ok (.bipush 6, 2) := by decide +kernel
theorem dX11_status_7 : decode cX11_status 7 = .ok (.if_icmp .ge 12, 3) := by decide +kernel
theorem dX11_status_10 : decode cX11_status 10 = .ok (.aload_n 0, 1) := by decide +kernel
theorem dX11_status_11 : decode cX11_status 11 = .ok (.getfield 94, 3) := by decide +kernel
theorem dX11_status_14 : decode cX11_status 14 = .ok (.iload_n 1, 1) := by decide +kernel
theorem dX11_status_15 : decode cX11_status 15 = .ok (.iaload, 1) := by decide +kernel
theorem dX11_status_16 : decode cX11_status 16 = .ok (.goto 4, 3) := by decide +kernel
theorem dX11_status_19 : decode cX11_status 19 = .ok (.iconst (-1), 1) := by decide +kernel
theorem dX11_status_20 : decode cX11_status 20 = .ok (.ireturn, 1) := by decide +kernel
theorem dX11_refuse_0 : decode cX11_refuse 0 = .ok (.aload_n 0, 1) := by decide +kernel
theorem dX11_refuse_1 : decode cX11_refuse 1 = .ok (.getfield 94, 3) := by decide +kernel
theorem dX11_refuse_4 : decode cX11_refuse 4 = .ok (.iload_n 1, 1) := by decide +kernel
theorem dX11_refuse_5 : decode cX11_refuse 5 = .ok (.dup2, 1) := by decide +kernel
theorem dX11_refuse_6 : decode cX11_refuse 6 = .ok (.iaload, 1) := by decide +kernel
theorem dX11_refuse_7 : decode cX11_refuse 7 = .ok (.iconst 1, 1) := by decide +kernel
theorem dX11_refuse_8 : decode cX11_refuse 8 = .ok (.iadd, 1) := by decide +kernel
theorem dX11_refuse_9 : decode cX11_refuse 9 = .ok (.iastore, 1) := by decide +kernel
theorem dX11_refuse_10 : decode cX11_refuse 10 = .ok (.iconst (-1), 1) := by decide +kernel
theorem dX11_refuse_11 : decode cX11_refuse 11 = .ok (.ireturn, 1) := by decide +kernel
theorem dX11_isWay_0 : decode cX11_isWay 0 = .ok (.iload_n 0, 1) := by decide +kernel
theorem dX11_isWay_1 : decode cX11_isWay 1 = .ok (.ifCond .lt 12, 3) := by decide +kernel
theorem dX11_isWay_4 : decode cX11_isWay 4 = .ok (.iload_n 0, 1) := by decide +kernel
theorem dX11_isWay_5 : decode cX11_isWay 5 = .ok (.iconst 3, 1) := by decide +kernel
theorem dX11_isWay_6 : decode cX11_isWay 6 = .ok (.if_icmp .ge 7, 3) := by decide +kernel
theorem dX11_isWay_9 : decode cX11_isWay 9 = .ok (.iconst 1, 1) := by decide +kernel
theorem dX11_isWay_10 : decode cX11_isWay 10 = .ok (.goto 4, 3) := by decide +kernel
theorem dX11_isWay_13 : decode cX11_isWay 13 = .ok (.iconst 0, 1) := by decide +kernel
theorem dX11_isWay_14 : decode cX11_isWay 14 = .ok (.ireturn, 1) := by decide +kernel
theorem dX11_letterOf_0 : decode cX11_letterOf 0 = .ok (.iload_n 0, 1) := by decide +kernel
theorem dX11_letterOf_1 : decode cX11_letterOf 1 = .ok (.iconst 5, 1) := by decide +kernel
theorem dX11_letterOf_2 : decode cX11_letterOf 2 = .ok (.iload_n 1, 1) := by decide +kernel
theorem dX11_letterOf_3 : decode cX11_letterOf 3 = .ok (.imul, 1) := by decide +kernel
theorem dX11_letterOf_4 : decode cX11_letterOf 4 = .ok (.ishr, 1) := by decide +kernel
theorem dX11_letterOf_5 : decode cX11_letterOf 5 = .ok (.bipush 31, 2) := by decide +kernel
theorem dX11_letterOf_7 : decode cX11_letterOf 7 = .ok (.iand, 1) := by decide +kernel
theorem dX11_letterOf_8 : decode cX11_letterOf 8 = .ok (.ireturn, 1) := by decide +kernel
theorem dX11_rankOf_0 : decode cX11_rankOf 0 = .ok (.iload_n 2, 1) := by decide +kernel
theorem dX11_rankOf_1 : decode cX11_rankOf 1 = .ok (.tableswitch 78 0 3 #[31, 41, 54, 66], 31) := by decide +kernel
theorem dX11_rankOf_32 : decode cX11_rankOf 32 = .ok (.aload_n 0, 1) := by decide +kernel
theorem dX11_rankOf_33 : decode cX11_rankOf 33 = .ok (.getfield 42, 3) := by decide +kernel
theorem dX11_rankOf_36 : decode cX11_rankOf 36 = .ok (.getfield 289, 3) := by decide +kernel
theorem dX11_rankOf_39 : decode cX11_rankOf 39 = .ok (.iload_n 1, 1) := by decide +kernel
theorem dX11_rankOf_40 : decode cX11_rankOf 40 = .ok (.iaload, 1) := by decide +kernel
theorem dX11_rankOf_41 : decode cX11_rankOf 41 = .ok (.ireturn, 1) := by decide +kernel
theorem dX11_rankOf_42 : decode cX11_rankOf 42 = .ok (.aload_n 0, 1) := by decide +kernel
theorem dX11_rankOf_43 : decode cX11_rankOf 43 = .ok (.getfield 42, 3) := by decide +kernel
theorem dX11_rankOf_46 : decode cX11_rankOf 46 = .ok (.getfield 215, 3) := by decide +kernel
theorem dX11_rankOf_49 : decode cX11_rankOf 49 = .ok (.iload_n 1, 1) := by decide +kernel
theorem dX11_rankOf_50 : decode cX11_rankOf 50 = .ok (.iaload, 1) := by decide +kernel
theorem dX11_rankOf_51 : decode cX11_rankOf 51 = .ok (.invokestatic 162, 3) := by decide +kernel
theorem dX11_rankOf_54 : decode cX11_rankOf 54 = .ok (.ireturn, 1) := by decide +kernel
theorem dX11_rankOf_55 : decode cX11_rankOf 55 = .ok (.aload_n 0, 1) := by decide +kernel
theorem dX11_rankOf_56 : decode cX11_rankOf 56 = .ok (.getfield 49, 3) := by decide +kernel
theorem dX11_rankOf_59 : decode cX11_rankOf 59 = .ok (.iload_n 3, 1) := by decide +kernel
theorem dX11_rankOf_60 : decode cX11_rankOf 60 = .ok (.aaload, 1) := by decide +kernel
theorem dX11_rankOf_61 : decode cX11_rankOf 61 = .ok (.getfield 418, 3) := by decide +kernel
theorem dX11_rankOf_64 : decode cX11_rankOf 64 = .ok (.iload_n 1, 1) := by decide +kernel
theorem dX11_rankOf_65 : decode cX11_rankOf 65 = .ok (.iaload, 1) := by decide +kernel
theorem dX11_rankOf_66 : decode cX11_rankOf 66 = .ok (.ireturn, 1) := by decide +kernel
theorem dX11_rankOf_67 : decode cX11_rankOf 67 = .ok (.aload_n 0, 1) := by decide +kernel
theorem dX11_rankOf_68 : decode cX11_rankOf 68 = .ok (.getfield 49, 3) := by decide +kernel
theorem dX11_rankOf_71 : decode cX11_rankOf 71 = .ok (.iload_n 3, 1) := by decide +kernel
theorem dX11_rankOf_72 : decode cX11_rankOf 72 = .ok (.aaload, 1) := by decide +kernel
theorem dX11_rankOf_73 : decode cX11_rankOf 73 = .ok (.getfield 421, 3) := by decide +kernel
theorem dX11_rankOf_76 : decode cX11_rankOf 76 = .ok (.iload_n 1, 1) := by decide +kernel
theorem dX11_rankOf_77 : decode cX11_rankOf 77 = .ok (.iaload, 1) := by decide +kernel
theorem dX11_rankOf_78 : decode cX11_rankOf 78 = .ok (.ireturn, 1) := by decide +kernel
theorem dX11_rankOf_79 : decode cX11_rankOf 79 = .ok (.iconst (-1), 1) := by decide +kernel
theorem dX11_rankOf_80 : decode cX11_rankOf 80 = .ok (.ireturn, 1) := by decide +kernel
theorem dX11_unlike_0 : decode cX11_unlike 0 = .ok (.iconst 0, 1) := by decide +kernel
theorem dX11_unlike_1 : decode cX11_unlike 1 = .ok (.istore_n 3, 1) := by decide +kernel
theorem dX11_unlike_2 : decode cX11_unlike 2 = .ok (.iconst 0, 1) := by decide +kernel
theorem dX11_unlike_3 : decode cX11_unlike 3 = .ok (.istore 4, 2) := by decide +kernel
theorem dX11_unlike_5 : decode cX11_unlike 5 = .ok (.iload 4, 2) := by decide +kernel
theorem dX11_unlike_7 : decode cX11_unlike 7 = .ok (.iload_n 2, 1) := by decide +kernel
theorem dX11_unlike_8 : decode cX11_unlike 8 = .ok (.if_icmp .ge 23, 3) := by decide +kernel
theorem dX11_unlike_11 : decode cX11_unlike 11 = .ok (.aload_n 0, 1) := by decide +kernel
theorem dX11_unlike_12 : decode cX11_unlike 12 = .ok (.iload 4, 2) := by decide +kernel
theorem dX11_unlike_14 : decode cX11_unlike 14 = .ok (.iaload, 1) := by decide +kernel
theorem dX11_unlike_15 : decode cX11_unlike 15 = .ok (.aload_n 1, 1) := by decide +kernel
theorem dX11_unlike_16 : decode cX11_unlike 16 = .ok (.iload 4, 2) := by decide +kernel
theorem dX11_unlike_18 : decode cX11_unlike 18 = .ok (.iaload, 1) := by decide +kernel
theorem dX11_unlike_19 : decode cX11_unlike 19 = .ok (.if_icmp .eq 6, 3) := by decide +kernel
theorem dX11_unlike_22 : decode cX11_unlike 22 = .ok (.iinc 3 1, 3) := by decide +kernel
theorem dX11_unlike_25 : decode cX11_unlike 25 = .ok (.iinc 4 1, 3) := by decide +kernel
theorem dX11_unlike_28 : decode cX11_unlike 28 = .ok (.goto (-23), 3) := by decide +kernel
theorem dX11_unlike_31 : decode cX11_unlike 31 = .ok (.iload_n 3, 1) := by decide +kernel
theorem dX11_unlike_32 : decode cX11_unlike 32 = .ok (.ireturn, 1) := by decide +kernel
theorem dX11_lossOf_0 : decode cX11_lossOf 0 = .ok (.aload_n 0, 1) := by decide +kernel
theorem dX11_lossOf_1 : decode cX11_lossOf 1 = .ok (.getfield 91, 3) := by decide +kernel
theorem dX11_lossOf_4 : decode cX11_lossOf 4 = .ok (.getfield 177, 3) := by decide +kernel
theorem dX11_lossOf_7 : decode cX11_lossOf 7 = .ok (.aload_n 0, 1) := by decide +kernel
theorem dX11_lossOf_8 : decode cX11_lossOf 8 = .ok (.getfield 28, 3) := by decide +kernel
theorem dX11_lossOf_11 : decode cX11_lossOf 11 = .ok (.aload_n 0, 1) := by decide +kernel
theorem dX11_lossOf_12 : decode cX11_lossOf 12 = .ok (.getfield 42, 3) := by decide +kernel
theorem dX11_lossOf_15 : decode cX11_lossOf 15 = .ok (.getfield 424, 3) := by decide +kernel
theorem dX11_lossOf_18 : decode cX11_lossOf 18 = .ok (.iload_n 1, 1) := by decide +kernel
theorem dX11_lossOf_19 : decode cX11_lossOf 19 = .ok (.invokevirtual 427, 3) := by decide +kernel
theorem dX11_lossOf_22 : decode cX11_lossOf 22 = .ok (.aload_n 0, 1) := by decide +kernel
theorem dX11_lossOf_23 : decode cX11_lossOf 23 = .ok (.getfield 42, 3) := by decide +kernel
theorem dX11_lossOf_26 : decode cX11_lossOf 26 = .ok (.getfield 177, 3) := by decide +kernel
theorem dX11_lossOf_29 : decode cX11_lossOf 29 = .ok (.aload_n 0, 1) := by decide +kernel
theorem dX11_lossOf_30 : decode cX11_lossOf 30 = .ok (.getfield 42, 3) := by decide +kernel
theorem dX11_lossOf_33 : decode cX11_lossOf 33 = .ok (.getfield 167, 3) := by decide +kernel
theorem dX11_lossOf_36 : decode cX11_lossOf 36 = .ok (.invokevirtual 181, 3) := by decide +kernel
theorem dX11_lossOf_39 : decode cX11_lossOf 39 = .ok (.aload_n 0, 1) := by decide +kernel
theorem dX11_lossOf_40 : decode cX11_lossOf 40 = .ok (.getfield 91, 3) := by decide +kernel
theorem dX11_lossOf_43 : decode cX11_lossOf 43 = .ok (.getfield 177, 3) := by decide +kernel
theorem dX11_lossOf_46 : decode cX11_lossOf 46 = .ok (.aload_n 0, 1) := by decide +kernel
theorem dX11_lossOf_47 : decode cX11_lossOf 47 = .ok (.getfield 42, 3) := by decide +kernel
theorem dX11_lossOf_50 : decode cX11_lossOf 50 = .ok (.getfield 167, 3) := by decide +kernel
theorem dX11_lossOf_53 : decode cX11_lossOf 53 = .ok (.invokevirtual 181, 3) := by decide +kernel
theorem dX11_lossOf_56 : decode cX11_lossOf 56 = .ok (.isub, 1) := by decide +kernel
theorem dX11_lossOf_57 : decode cX11_lossOf 57 = .ok (.ireturn, 1) := by decide +kernel
theorem dX11_figure_0 : decode cX11_figure 0 = .ok (.aload_n 0, 1) := by decide +kernel
theorem dX11_figure_1 : decode cX11_figure 1 = .ok (.getfield 42, 3) := by decide +kernel
theorem dX11_figure_4 : decode cX11_figure 4 = .ok (.aload_n 0, 1) := by decide +kernel
theorem dX11_figure_5 : decode cX11_figure 5 = .ok (.getfield 28, 3) := by decide +kernel
theorem dX11_figure_8 : decode cX11_figure 8 = .ok (.invokevirtual 320, 3) := by decide +kernel
theorem dX11_figure_11 : decode cX11_figure 11 = .ok (.iconst 0, 1) := by decide +kernel
theorem dX11_figure_12 : decode cX11_figure 12 = .ok (.istore_n 1, 1) := by decide +kernel
theorem dX11_figure_13 : decode cX11_figure 13 = .ok (.iload_n 1, 1) := by decide +kernel
theorem dX11_figure_14 : decode cX11_figure 14 = .ok (.iconst 3, 1) := by decide +kernel
theorem dX11_figure_15 : decode cX11_figure 15 = .ok (.if_icmp .ge 33, 3) := by decide +kernel
theorem dX11_figure_18 : decode cX11_figure 18 = .ok (.aload_n 0, 1) := by decide +kernel
theorem dX11_figure_19 : decode cX11_figure 19 = .ok (.getfield 49, 3) := by decide +kernel
theorem dX11_figure_22 : decode cX11_figure 22 = .ok (.iload_n 1, 1) := by decide +kernel
theorem dX11_figure_23 : decode cX11_figure 23 = .ok (.aaload, 1) := by decide +kernel
theorem dX11_figure_24 : decode cX11_figure 24 = .ok (.aload_n 0, 1) := by decide +kernel
theorem dX11_figure_25 : decode cX11_figure 25 = .ok (.getfield 28, 3) := by decide +kernel
theorem dX11_figure_28 : decode cX11_figure 28 = .ok (.aload_n 0, 1) := by decide +kernel
theorem dX11_figure_29 : decode cX11_figure 29 = .ok (.getfield 42, 3) := by decide +kernel
theorem dX11_figure_32 : decode cX11_figure 32 = .ok (.iload_n 1, 1) := by decide +kernel
theorem dX11_figure_33 : decode cX11_figure 33 = .ok (.aload_n 0, 1) := by decide +kernel
theorem dX11_figure_34 : decode cX11_figure 34 = .ok (.getfield 49, 3) := by decide +kernel
theorem dX11_figure_37 : decode cX11_figure 37 = .ok (.iconst 0, 1) := by decide +kernel
theorem dX11_figure_38 : decode cX11_figure 38 = .ok (.aaload, 1) := by decide +kernel
theorem dX11_figure_39 : decode cX11_figure 39 = .ok (.invokevirtual 431, 3) := by decide +kernel
theorem dX11_figure_42 : decode cX11_figure 42 = .ok (.iinc 1 1, 3) := by decide +kernel
theorem dX11_figure_45 : decode cX11_figure 45 = .ok (.goto (-32), 3) := by decide +kernel
theorem dX11_figure_48 : decode cX11_figure 48 = .ok (.return_, 1) := by decide +kernel
theorem dX11_forgetActs_0 : decode cX11_forgetActs 0 = .ok (.aload_n 0, 1) := by decide +kernel
theorem dX11_forgetActs_1 : decode cX11_forgetActs 1 = .ok (.getfield 56, 3) := by decide +kernel
theorem dX11_forgetActs_4 : decode cX11_forgetActs 4 = .ok (.iconst 0, 1) := by decide +kernel
theorem dX11_forgetActs_5 : decode cX11_forgetActs 5 = .ok (.putfield 174, 3) := by decide +kernel
theorem dX11_forgetActs_8 : decode cX11_forgetActs 8 = .ok (.aload_n 0, 1) := by decide +kernel
theorem dX11_forgetActs_9 : decode cX11_forgetActs 9 = .ok (.getfield 63, 3) := by decide +kernel
theorem dX11_forgetActs_12 : decode cX11_forgetActs 12 = .ok (.iconst 0, 1) := by decide +kernel
theorem dX11_forgetActs_13 : decode cX11_forgetActs 13 = .ok (.putfield 352, 3) := by decide +kernel
theorem dX11_forgetActs_16 : decode cX11_forgetActs 16 = .ok (.return_, 1) := by decide +kernel
theorem dX11_beginAct_0 : decode cX11_beginAct 0 = .ok (.aload_n 0, 1) := by decide +kernel
theorem dX11_beginAct_1 : decode cX11_beginAct 1 = .ok (.getfield 56, 3) := by decide +kernel
theorem dX11_beginAct_4 : decode cX11_beginAct 4 = .ok (.aload_n 0, 1) := by decide +kernel
theorem dX11_beginAct_5 : decode cX11_beginAct 5 = .ok (.getfield 28, 3) := by decide +kernel
theorem dX11_beginAct_8 : decode cX11_beginAct 8 = .ok (.invokevirtual 435, 3) := by decide +kernel
theorem dX11_beginAct_11 : decode cX11_beginAct 11 = .ok (.iconst 0, 1) := by decide +kernel
theorem dX11_beginAct_12 : decode cX11_beginAct 12 = .ok (.istore_n 1, 1) := by decide +kernel
theorem dX11_beginAct_13 : decode cX11_beginAct 13 = .ok (.iload_n 1, 1) := by decide +kernel
theorem dX11_beginAct_14 : decode cX11_beginAct 14 = .ok (.iconst 4, 1) := by decide +kernel
theorem dX11_beginAct_15 : decode cX11_beginAct 15 = .ok (.if_icmp .ge 44, 3) := by decide +kernel
theorem dX11_beginAct_18 : decode cX11_beginAct 18 = .ok (.iconst 0, 1) := by decide +kernel
theorem dX11_beginAct_19 : decode cX11_beginAct 19 = .ok (.istore_n 2, 1) := by decide +kernel
theorem dX11_beginAct_20 : decode cX11_beginAct 20 = .ok (.iload_n 2, 1) := by decide +kernel
theorem dX11_beginAct_21 : decode cX11_beginAct 21 = .ok (.aload_n 0, 1) := by decide +kernel
theorem dX11_beginAct_22 : decode cX11_beginAct 22 = .ok (.getfield 28, 3) := by decide +kernel
theorem dX11_beginAct_25 : decode cX11_beginAct 25 = .ok (.getfield 147, 3) := by decide +kernel
theorem dX11_beginAct_28 : decode cX11_beginAct 28 = .ok (.if_icmp .ge 25, 3) := by decide +kernel
theorem dX11_beginAct_31 : decode cX11_beginAct 31 = .ok (.aload_n 0, 1) := by decide +kernel
theorem dX11_beginAct_32 : decode cX11_beginAct 32 = .ok (.getfield 63, 3) := by decide +kernel
theorem dX11_beginAct_35 : decode cX11_beginAct 35 = .ok (.iload_n 1, 1) := by decide +kernel
theorem dX11_beginAct_36 : decode cX11_beginAct 36 = .ok (.iload_n 2, 1) := by decide +kernel
theorem dX11_beginAct_37 : decode cX11_beginAct 37 = .ok (.aload_n 0, 1) := by decide +kernel
theorem dX11_beginAct_38 : decode cX11_beginAct 38 = .ok (.iload_n 2, 1) := by decide +kernel
theorem dX11_beginAct_39 : decode cX11_beginAct 39 = .ok (.iload_n 1, 1) := by decide +kernel
theorem dX11_beginAct_40 : decode cX11_beginAct 40 = .ok (.iconst 0, 1) := by decide +kernel
theorem dX11_beginAct_41 : decode cX11_beginAct 41 = .ok (.invokevirtual 239, 3) := by decide +kernel
theorem dX11_beginAct_44 : decode cX11_beginAct 44 = .ok (.invokevirtual 438, 3) := by decide +kernel
theorem dX11_beginAct_47 : decode cX11_beginAct 47 = .ok (.iinc 2 1, 3) := by decide +kernel
theorem dX11_beginAct_50 : decode cX11_beginAct 50 = .ok (.goto (-30), 3) := by decide +kernel
theorem dX11_beginAct_53 : decode cX11_beginAct 53 = .ok (.iinc 1 1, 3) := by decide +kernel
theorem dX11_beginAct_56 : decode cX11_beginAct 56 = .ok (.goto (-43), 3) := by decide +kernel
theorem dX11_beginAct_59 : decode cX11_beginAct 59 = .ok (.aload_n 0, 1) := by decide +kernel
theorem dX11_beginAct_60 : decode cX11_beginAct 60 = .ok (.getfield 63, 3) := by decide +kernel
theorem dX11_beginAct_63 : decode cX11_beginAct 63 = .ok (.aload_n 0, 1) := by decide +kernel
theorem dX11_beginAct_64 : decode cX11_beginAct 64 = .ok (.getfield 28, 3) := by decide +kernel
theorem dX11_beginAct_67 : decode cX11_beginAct 67 = .ok (.getfield 147, 3) := by decide +kernel
theorem dX11_beginAct_70 : decode cX11_beginAct 70 = .ok (.putfield 442, 3) := by decide +kernel
theorem dX11_beginAct_73 : decode cX11_beginAct 73 = .ok (.return_, 1) := by decide +kernel
theorem dX11_endAct_0 : decode cX11_endAct 0 = .ok (.aload_n 0, 1) := by decide +kernel
theorem dX11_endAct_1 : decode cX11_endAct 1 = .ok (.invokevirtual 144, 3) := by decide +kernel
theorem dX11_endAct_4 : decode cX11_endAct 4 = .ok (.aload_n 0, 1) := by decide +kernel
theorem dX11_endAct_5 : decode cX11_endAct 5 = .ok (.getfield 63, 3) := by decide +kernel
theorem dX11_endAct_8 : decode cX11_endAct 8 = .ok (.invokevirtual 445, 3) := by decide +kernel
theorem dX11_endAct_11 : decode cX11_endAct 11 = .ok (.aload_n 0, 1) := by decide +kernel
theorem dX11_endAct_12 : decode cX11_endAct 12 = .ok (.getfield 63, 3) := by decide +kernel
theorem dX11_endAct_15 : decode cX11_endAct 15 = .ok (.getfield 442, 3) := by decide +kernel
theorem dX11_endAct_18 : decode cX11_endAct 18 = .ok (.aload_n 0, 1) := by decide +kernel
theorem dX11_endAct_19 : decode cX11_endAct 19 = .ok (.getfield 28, 3) := by decide +kernel
theorem dX11_endAct_22 : decode cX11_endAct 22 = .ok (.getfield 147, 3) := by decide +kernel
theorem dX11_endAct_25 : decode cX11_endAct 25 = .ok (.invokestatic 448, 3) := by decide +kernel
theorem dX11_endAct_28 : decode cX11_endAct 28 = .ok (.istore_n 1, 1) := by decide +kernel
theorem dX11_endAct_29 : decode cX11_endAct 29 = .ok (.iconst 0, 1) := by decide +kernel
theorem dX11_endAct_30 : decode cX11_endAct 30 = .ok (.istore_n 2, 1) := by decide +kernel
theorem dX11_endAct_31 : decode cX11_endAct 31 = .ok (.iload_n 2, 1) := by decide +kernel
theorem dX11_endAct_32 : decode cX11_endAct 32 = .ok (.iconst 4, 1) := by decide +kernel
theorem dX11_endAct_33 : decode cX11_endAct 33 = .ok (.if_icmp .ge 38, 3) := by decide +kernel
theorem dX11_endAct_36 : decode cX11_endAct 36 = .ok (.iconst 0, 1) := by decide +kernel
theorem dX11_endAct_37 : decode cX11_endAct 37 = .ok (.istore_n 3, 1) := by decide +kernel
theorem dX11_endAct_38 : decode cX11_endAct 38 = .ok (.iload_n 3, 1) := by decide +kernel
theorem dX11_endAct_39 : decode cX11_endAct 39 = .ok (.iload_n 1, 1) := by decide +kernel
theorem dX11_endAct_40 : decode cX11_endAct 40 = .ok (.if_icmp .ge 25, 3) := by decide +kernel
theorem dX11_endAct_43 : decode cX11_endAct 43 = .ok (.aload_n 0, 1) := by decide +kernel
theorem dX11_endAct_44 : decode cX11_endAct 44 = .ok (.getfield 63, 3) := by decide +kernel
theorem dX11_endAct_47 : decode cX11_endAct 47 = .ok (.iload_n 2, 1) := by decide +kernel
theorem dX11_endAct_48 : decode cX11_endAct 48 = .ok (.iload_n 3, 1) := by decide +kernel
theorem dX11_endAct_49 : decode cX11_endAct 49 = .ok (.aload_n 0, 1) := by decide +kernel
theorem dX11_endAct_50 : decode cX11_endAct 50 = .ok (.iload_n 3, 1) := by decide +kernel
theorem dX11_endAct_51 : decode cX11_endAct 51 = .ok (.iload_n 2, 1) := by decide +kernel
theorem dX11_endAct_52 : decode cX11_endAct 52 = .ok (.iconst 0, 1) := by decide +kernel
theorem dX11_endAct_53 : decode cX11_endAct 53 = .ok (.invokevirtual 239, 3) := by decide +kernel
theorem dX11_endAct_56 : decode cX11_endAct 56 = .ok (.invokevirtual 453, 3) := by decide +kernel
theorem dX11_endAct_59 : decode cX11_endAct 59 = .ok (.iinc 3 1, 3) := by decide +kernel
theorem dX11_endAct_62 : decode cX11_endAct 62 = .ok (.goto (-24), 3) := by decide +kernel
theorem dX11_endAct_65 : decode cX11_endAct 65 = .ok (.iinc 2 1, 3) := by decide +kernel
theorem dX11_endAct_68 : decode cX11_endAct 68 = .ok (.goto (-37), 3) := by decide +kernel
theorem dX11_endAct_71 : decode cX11_endAct 71 = .ok (.return_, 1) := by decide +kernel
theorem dX11_splitReach_0 : decode cX11_splitReach 0 = .ok (.aload_n 0, 1) := by decide +kernel
theorem dX11_splitReach_1 : decode cX11_splitReach 1 = .ok (.getfield 28, 3) := by decide +kernel
theorem dX11_splitReach_4 : decode cX11_splitReach 4 = .ok (.iload_n 1, 1) := by decide +kernel
theorem dX11_splitReach_5 : decode cX11_splitReach 5 = .ok (.iload_n 2, 1) := by decide +kernel
theorem dX11_splitReach_6 : decode cX11_splitReach 6 = .ok (.invokevirtual 456, 3) := by decide +kernel
theorem dX11_splitReach_9 : decode cX11_splitReach 9 = .ok (.aload_n 0, 1) := by decide +kernel
theorem dX11_splitReach_10 : decode cX11_splitReach 10 = .ok (.getfield 32, 3) := by decide +kernel
theorem dX11_splitReach_13 : decode cX11_splitReach 13 = .ok (.aload_n 0, 1) := by decide +kernel
theorem dX11_splitReach_14 : decode cX11_splitReach 14 = .ok (.getfield 28, 3) := by decide +kernel
theorem dX11_splitReach_17 : decode cX11_splitReach 17 = .ok (.getfield 156, 3) := by decide +kernel
theorem dX11_splitReach_20 : decode cX11_splitReach 20 = .ok (.iconst 1, 1) := by decide +kernel
theorem dX11_splitReach_21 : decode cX11_splitReach 21 = .ok (.isub, 1) := by decide +kernel
theorem dX11_splitReach_22 : decode cX11_splitReach 22 = .ok (.iconst 0, 1) := by decide +kernel
theorem dX11_splitReach_23 : decode cX11_splitReach 23 = .ok (.iastore, 1) := by decide +kernel
theorem dX11_splitReach_24 : decode cX11_splitReach 24 = .ok (.return_, 1) := by decide +kernel
theorem dX11_draw_0 : decode cX11_draw 0 = .ok (.aload_n 0, 1) := by decide +kernel
theorem dX11_draw_1 : decode cX11_draw 1 = .ok (.ldc_w 459, 3) := by decide +kernel
theorem dX11_draw_4 : decode cX11_draw 4 = .ok (.aload_n 0, 1) := by decide +kernel
theorem dX11_draw_5 : decode cX11_draw 5 = .ok (.getfield 97, 3) := by decide +kernel
theorem dX11_draw_8 : decode cX11_draw 8 = .ok (.imul, 1) := by decide +kernel
theorem dX11_draw_9 : decode cX11_draw 9 = .ok (.sipush 12345, 3) := by decide +kernel
theorem dX11_draw_12 : decode cX11_draw 12 = .ok (.iadd, 1) := by decide +kernel
theorem dX11_draw_13 : decode cX11_draw 13 = .ok (.ldc_w 460, 3) := by decide +kernel
theorem dX11_draw_16 : decode cX11_draw 16 = .ok (.iand, 1) := by decide +kernel
theorem dX11_draw_17 : decode cX11_draw 17 = .ok (.putfield 97, 3) := by decide +kernel
theorem dX11_draw_20 : decode cX11_draw 20 = .ok (.iload_n 1, 1) := by decide +kernel
theorem dX11_draw_21 : decode cX11_draw 21 = .ok (.ifCond .le 15, 3) := by decide +kernel
theorem dX11_draw_24 : decode cX11_draw 24 = .ok (.aload_n 0, 1) := by decide +kernel
theorem dX11_draw_25 : decode cX11_draw 25 = .ok (.getfield 97, 3) := by decide +kernel
theorem dX11_draw_28 : decode cX11_draw 28 = .ok (.bipush 64, 2) := by decide +kernel
theorem dX11_draw_30 : decode cX11_draw 30 = .ok (.idiv, 1) := by decide +kernel
theorem dX11_draw_31 : decode cX11_draw 31 = .ok (.iload_n 1, 1) := by decide +kernel
theorem dX11_draw_32 : decode cX11_draw 32 = .ok (.irem, 1) := by decide +kernel
theorem dX11_draw_33 : decode cX11_draw 33 = .ok (.goto 4, 3) := by decide +kernel
theorem dX11_draw_36 : decode cX11_draw 36 = .ok (.iconst 0, 1) := by decide +kernel
theorem dX11_draw_37 : decode cX11_draw 37 = .ok (.ireturn, 1) := by decide +kernel
theorem dX11_actByChance_0 : decode cX11_actByChance 0 = .ok (.aload_n 0, 1) := by decide +kernel
theorem dX11_actByChance_1 : decode cX11_actByChance 1 = .ok (.iconst 4, 1) := by decide +kernel
theorem dX11_actByChance_2 : decode cX11_actByChance 2 = .ok (.invokevirtual 461, 3) := by decide +kernel
theorem dX11_actByChance_5 : decode cX11_actByChance 5 = .ok (.istore_n 1, 1) := by decide +kernel
theorem dX11_actByChance_6 : decode cX11_actByChance 6 = .ok (.aload_n 0, 1) := by decide +kernel
theorem dX11_actByChance_7 : decode cX11_actByChance 7 = .ok (.aload_n 0, 1) := by decide +kernel
theorem dX11_actByChance_8 : decode cX11_actByChance 8 = .ok (.getfield 28, 3) := by decide +kernel
theorem dX11_actByChance_11 : decode cX11_actByChance 11 = .ok (.getfield 147, 3) := by decide +kernel
theorem dX11_actByChance_14 : decode cX11_actByChance 14 = .ok (.invokevirtual 461, 3) := by decide +kernel
theorem dX11_actByChance_17 : decode cX11_actByChance 17 = .ok (.istore_n 2, 1) := by decide +kernel
theorem dX11_actByChance_18 : decode cX11_actByChance 18 = .ok (.iload_n 1, 1) := by decide +kernel
theorem dX11_actByChance_19 : decode cX11_actByChance 19 = .ok (.tableswitch 106 0 2 #[25, 47, 65], 25) := by decide +kernel
theorem dX11_actByChance_44 : decode cX11_actByChance 44 = .ok (.aload_n 0, 1) := by decide +kernel
theorem dX11_actByChance_45 : decode cX11_actByChance 45 = .ok (.getfield 28, 3) := by decide +kernel
theorem dX11_actByChance_48 : decode cX11_actByChance 48 = .ok (.iload_n 2, 1) := by decide +kernel
theorem dX11_actByChance_49 : decode cX11_actByChance 49 = .ok (.invokevirtual 314, 3) := by decide +kernel
theorem dX11_actByChance_52 : decode cX11_actByChance 52 = .ok (.ifCond .eq 129, 3) := by decide +kernel
theorem dX11_actByChance_55 : decode cX11_actByChance 55 = .ok (.aload_n 0, 1) := by decide +kernel
theorem dX11_actByChance_56 : decode cX11_actByChance 56 = .ok (.getfield 28, 3) := by decide +kernel
theorem dX11_actByChance_59 : decode cX11_actByChance 59 = .ok (.iload_n 2, 1) := by decide +kernel
theorem dX11_actByChance_60 : decode cX11_actByChance 60 = .ok (.invokevirtual 317, 3) := by decide +kernel
theorem dX11_actByChance_63 : decode cX11_actByChance 63 = .ok (.goto 118, 3) := by decide +kernel
theorem dX11_actByChance_66 : decode cX11_actByChance 66 = .ok (.aload_n 0, 1) := by decide +kernel
theorem dX11_actByChance_67 : decode cX11_actByChance 67 = .ok (.getfield 28, 3) := by decide +kernel
theorem dX11_actByChance_70 : decode cX11_actByChance 70 = .ok (.getfield 206, 3) := by decide +kernel
theorem dX11_actByChance_73 : decode cX11_actByChance 73 = .ok (.iload_n 2, 1) := by decide +kernel
theorem dX11_actByChance_74 : decode cX11_actByChance 74 = .ok (.aload_n 0, 1) := by decide +kernel
theorem dX11_actByChance_75 : decode cX11_actByChance 75 = .ok (.bipush 100, 2) := by decide +kernel
theorem dX11_actByChance_77 : decode cX11_actByChance 77 = .ok (.invokevirtual 461, 3) := by decide +kernel
theorem dX11_actByChance_80 : decode cX11_actByChance 80 = .ok (.iastore, 1) := by decide +kernel
theorem dX11_actByChance_81 : decode cX11_actByChance 81 = .ok (.goto 100, 3) := by decide +kernel
theorem dX11_actByChance_84 : decode cX11_actByChance 84 = .ok (.aload_n 0, 1) := by decide +kernel
theorem dX11_actByChance_85 : decode cX11_actByChance 85 = .ok (.getfield 28, 3) := by decide +kernel
theorem dX11_actByChance_88 : decode cX11_actByChance 88 = .ok (.iload_n 2, 1) := by decide +kernel
theorem dX11_actByChance_89 : decode cX11_actByChance 89 = .ok (.aload_n 0, 1) := by decide +kernel
theorem dX11_actByChance_90 : decode cX11_actByChance 90 = .ok (.getfield 28, 3) := by decide +kernel
theorem dX11_actByChance_93 : decode cX11_actByChance 93 = .ok (.getfield 203, 3) := by decide +kernel
theorem dX11_actByChance_96 : decode cX11_actByChance 96 = .ok (.iload_n 2, 1) := by decide +kernel
theorem dX11_actByChance_97 : decode cX11_actByChance 97 = .ok (.iaload, 1) := by decide +kernel
theorem dX11_actByChance_98 : decode cX11_actByChance 98 = .ok (.iconst 2, 1) := by decide +kernel
theorem dX11_actByChance_99 : decode cX11_actByChance 99 = .ok (.idiv, 1) := by decide +kernel
theorem dX11_actByChance_100 : decode cX11_actByChance 100 = .ok (.invokevirtual 388, 3) := by decide +kernel
theorem dX11_actByChance_103 : decode cX11_actByChance 103 = .ok (.ifCond .eq 78, 3) := by decide +kernel
theorem dX11_actByChance_106 : decode cX11_actByChance 106 = .ok (.aload_n 0, 1) := by decide +kernel
theorem dX11_actByChance_107 : decode cX11_actByChance 107 = .ok (.iload_n 2, 1) := by decide +kernel
theorem dX11_actByChance_108 : decode cX11_actByChance 108 = .ok (.aload_n 0, 1) := by decide +kernel
theorem dX11_actByChance_109 : decode cX11_actByChance 109 = .ok (.getfield 28, 3) := by decide +kernel
theorem dX11_actByChance_112 : decode cX11_actByChance 112 = .ok (.getfield 203, 3) := by decide +kernel
theorem dX11_actByChance_115 : decode cX11_actByChance 115 = .ok (.iload_n 2, 1) := by decide +kernel
theorem dX11_actByChance_116 : decode cX11_actByChance 116 = .ok (.iaload, 1) := by decide +kernel
theorem dX11_actByChance_117 : decode cX11_actByChance 117 = .ok (.iconst 2, 1) := by decide +kernel
theorem dX11_actByChance_118 : decode cX11_actByChance 118 = .ok (.idiv, 1) := by decide +kernel
theorem dX11_actByChance_119 : decode cX11_actByChance 119 = .ok (.invokevirtual 392, 3) := by decide +kernel
theorem dX11_actByChance_122 : decode cX11_actByChance 122 = .ok (.goto 59, 3) := by decide +kernel
theorem dX11_actByChance_125 : decode cX11_actByChance 125 = .ok (.aload_n 0, 1) := by decide +kernel
theorem dX11_actByChance_126 : decode cX11_actByChance 126 = .ok (.aload_n 0, 1) := by decide +kernel
theorem dX11_actByChance_127 : decode cX11_actByChance 127 = .ok (.getfield 28, 3) := by decide +kernel
theorem dX11_actByChance_130 : decode cX11_actByChance 130 = .ok (.getfield 156, 3) := by decide +kernel
theorem dX11_actByChance_133 : decode cX11_actByChance 133 = .ok (.invokevirtual 461, 3) := by decide +kernel
theorem dX11_actByChance_136 : decode cX11_actByChance 136 = .ok (.istore_n 3, 1) := by decide +kernel
theorem dX11_actByChance_137 : decode cX11_actByChance 137 = .ok (.aload_n 0, 1) := by decide +kernel
theorem dX11_actByChance_138 : decode cX11_actByChance 138 = .ok (.getfield 28, 3) := by decide +kernel
theorem dX11_actByChance_141 : decode cX11_actByChance 141 = .ok (.aload_n 0, 1) := by decide +kernel
theorem dX11_actByChance_142 : decode cX11_actByChance 142 = .ok (.getfield 28, 3) := by decide +kernel
theorem dX11_actByChance_145 : decode cX11_actByChance 145 = .ok (.getfield 200, 3) := by decide +kernel
theorem dX11_actByChance_148 : decode cX11_actByChance 148 = .ok (.iload_n 2, 1) := by decide +kernel
theorem dX11_actByChance_149 : decode cX11_actByChance 149 = .ok (.iaload, 1) := by decide +kernel
theorem dX11_actByChance_150 : decode cX11_actByChance 150 = .ok (.iload_n 3, 1) := by decide +kernel
theorem dX11_actByChance_151 : decode cX11_actByChance 151 = .ok (.bipush 10, 2) := by decide +kernel
theorem dX11_actByChance_153 : decode cX11_actByChance 153 = .ok (.iconst 0, 1) := by decide +kernel
theorem dX11_actByChance_154 : decode cX11_actByChance 154 = .ok (.invokevirtual 372, 3) := by decide +kernel
theorem dX11_actByChance_157 : decode cX11_actByChance 157 = .ok (.ifCond .eq 24, 3) := by decide +kernel
theorem dX11_actByChance_160 : decode cX11_actByChance 160 = .ok (.aload_n 0, 1) := by decide +kernel
theorem dX11_actByChance_161 : decode cX11_actByChance 161 = .ok (.getfield 28, 3) := by decide +kernel
theorem dX11_actByChance_164 : decode cX11_actByChance 164 = .ok (.aload_n 0, 1) := by decide +kernel
theorem dX11_actByChance_165 : decode cX11_actByChance 165 = .ok (.getfield 28, 3) := by decide +kernel
theorem dX11_actByChance_168 : decode cX11_actByChance 168 = .ok (.getfield 200, 3) := by decide +kernel
theorem dX11_actByChance_171 : decode cX11_actByChance 171 = .ok (.iload_n 2, 1) := by decide +kernel
theorem dX11_actByChance_172 : decode cX11_actByChance 172 = .ok (.iaload, 1) := by decide +kernel
theorem dX11_actByChance_173 : decode cX11_actByChance 173 = .ok (.iload_n 3, 1) := by decide +kernel
theorem dX11_actByChance_174 : decode cX11_actByChance 174 = .ok (.bipush 10, 2) := by decide +kernel
theorem dX11_actByChance_176 : decode cX11_actByChance 176 = .ok (.iconst 0, 1) := by decide +kernel
theorem dX11_actByChance_177 : decode cX11_actByChance 177 = .ok (.iconst (-1), 1) := by decide +kernel
theorem dX11_actByChance_178 : decode cX11_actByChance 178 = .ok (.invokevirtual 379, 3) := by decide +kernel
theorem dX11_actByChance_181 : decode cX11_actByChance 181 = .ok (.return_, 1) := by decide +kernel
theorem dJ6_bitCount_0f7a4_0 : decode cJ6_bitCount_0f7a4 0 = .ok (.iload_n 0, 1) := by decide +kernel
theorem dJ6_bitCount_0f7a4_1 : decode cJ6_bitCount_0f7a4 1 = .ok (.iload_n 0, 1) := by decide +kernel
theorem dJ6_bitCount_0f7a4_2 : decode cJ6_bitCount_0f7a4 2 = .ok (.iconst 1, 1) := by decide +kernel
theorem dJ6_bitCount_0f7a4_3 : decode cJ6_bitCount_0f7a4 3 = .ok (.iushr, 1) := by decide +kernel
theorem dJ6_bitCount_0f7a4_4 : decode cJ6_bitCount_0f7a4 4 = .ok (.ldc_w 265, 3) := by decide +kernel
theorem dJ6_bitCount_0f7a4_7 : decode cJ6_bitCount_0f7a4 7 = .ok (.iand, 1) := by decide +kernel
theorem dJ6_bitCount_0f7a4_8 : decode cJ6_bitCount_0f7a4 8 = .ok (.isub, 1) := by decide +kernel
theorem dJ6_bitCount_0f7a4_9 : decode cJ6_bitCount_0f7a4 9 = .ok (.istore_n 0, 1) := by decide +kernel
theorem dJ6_bitCount_0f7a4_10 : decode cJ6_bitCount_0f7a4 10 = .ok (.iload_n 0, 1) := by decide +kernel
theorem dJ6_bitCount_0f7a4_11 : decode cJ6_bitCount_0f7a4 11 = .ok (.ldc_w 266, 3) := by decide +kernel
theorem dJ6_bitCount_0f7a4_14 : decode cJ6_bitCount_0f7a4 14 = .ok (.iand, 1) := by decide +kernel
theorem dJ6_bitCount_0f7a4_15 : decode cJ6_bitCount_0f7a4 15 = .ok (.iload_n 0, 1) := by decide +kernel
theorem dJ6_bitCount_0f7a4_16 : decode cJ6_bitCount_0f7a4 16 = .ok (.iconst 2, 1) := by decide +kernel
theorem dJ6_bitCount_0f7a4_17 : decode cJ6_bitCount_0f7a4 17 = .ok (.iushr, 1) := by decide +kernel
theorem dJ6_bitCount_0f7a4_18 : decode cJ6_bitCount_0f7a4 18 = .ok (.ldc_w 266, 3) := by decide +kernel
theorem dJ6_bitCount_0f7a4_21 : decode cJ6_bitCount_0f7a4 21 = .ok (.iand, 1) := by decide +kernel
theorem dJ6_bitCount_0f7a4_22 : decode cJ6_bitCount_0f7a4 22 = .ok (.iadd, 1) := by decide +kernel
theorem dJ6_bitCount_0f7a4_23 : decode cJ6_bitCount_0f7a4 23 = .ok (.istore_n 0, 1) := by decide +kernel
theorem dJ6_bitCount_0f7a4_24 : decode cJ6_bitCount_0f7a4 24 = .ok (.iload_n 0, 1) := by decide +kernel
theorem dJ6_bitCount_0f7a4_25 : decode cJ6_bitCount_0f7a4 25 = .ok (.iload_n 0, 1) := by decide +kernel
theorem dJ6_bitCount_0f7a4_26 : decode cJ6_bitCount_0f7a4 26 = .ok (.iconst 4, 1) := by decide +kernel
theorem dJ6_bitCount_0f7a4_27 : decode cJ6_bitCount_0f7a4 27 = .ok (.iushr, 1) := by decide +kernel
theorem dJ6_bitCount_0f7a4_28 : decode cJ6_bitCount_0f7a4 28 = .ok (.iadd, 1) := by decide +kernel
theorem dJ6_bitCount_0f7a4_29 : decode cJ6_bitCount_0f7a4 29 = .ok (.ldc_w 267, 3) := by decide +kernel
theorem dJ6_bitCount_0f7a4_32 : decode cJ6_bitCount_0f7a4 32 = .ok (.iand, 1) := by decide +kernel
theorem dJ6_bitCount_0f7a4_33 : decode cJ6_bitCount_0f7a4 33 = .ok (.istore_n 0, 1) := by decide +kernel
theorem dJ6_bitCount_0f7a4_34 : decode cJ6_bitCount_0f7a4 34 = .ok (.iload_n 0, 1) := by decide +kernel
theorem dJ6_bitCount_0f7a4_35 : decode cJ6_bitCount_0f7a4 35 = .ok (.iload_n 0, 1) := by decide +kernel
theorem dJ6_bitCount_0f7a4_36 : decode cJ6_bitCount_0f7a4 36 = .ok (.bipush 8, 2) := by decide +kernel
theorem dJ6_bitCount_0f7a4_38 : decode cJ6_bitCount_0f7a4 38 = .ok (.iushr, 1) := by decide +kernel
theorem dJ6_bitCount_0f7a4_39 : decode cJ6_bitCount_0f7a4 39 = .ok (.iadd, 1) := by decide +kernel
theorem dJ6_bitCount_0f7a4_40 : decode cJ6_bitCount_0f7a4 40 = .ok (.istore_n 0, 1) := by decide +kernel
theorem dJ6_bitCount_0f7a4_41 : decode cJ6_bitCount_0f7a4 41 = .ok (.iload_n 0, 1) := by decide +kernel
theorem dJ6_bitCount_0f7a4_42 : decode cJ6_bitCount_0f7a4 42 = .ok (.iload_n 0, 1) := by decide +kernel
theorem dJ6_bitCount_0f7a4_43 : decode cJ6_bitCount_0f7a4 43 = .ok (.bipush 16, 2) := by decide +kernel
theorem dJ6_bitCount_0f7a4_45 : decode cJ6_bitCount_0f7a4 45 = .ok (.iushr, 1) := by decide +kernel
theorem dJ6_bitCount_0f7a4_46 : decode cJ6_bitCount_0f7a4 46 = .ok (.iadd, 1) := by decide +kernel
theorem dJ6_bitCount_0f7a4_47 : decode cJ6_bitCount_0f7a4 47 = .ok (.istore_n 0, 1) := by decide +kernel
theorem dJ6_bitCount_0f7a4_48 : decode cJ6_bitCount_0f7a4 48 = .ok (.iload_n 0, 1) := by decide +kernel
theorem dJ6_bitCount_0f7a4_49 : decode cJ6_bitCount_0f7a4 49 = .ok (.bipush 63, 2) := by decide +kernel
theorem dJ6_bitCount_0f7a4_51 : decode cJ6_bitCount_0f7a4 51 = .ok (.iand, 1) := by decide +kernel
theorem dJ6_bitCount_0f7a4_52 : decode cJ6_bitCount_0f7a4 52 = .ok (.ireturn, 1) := by decide +kernel
theorem dJ9_max_7cf53_0 : decode cJ9_max_7cf53 0 = .ok (.iload_n 0, 1) := by decide +kernel
theorem dJ9_max_7cf53_1 : decode cJ9_max_7cf53 1 = .ok (.iload_n 1, 1) := by decide +kernel
theorem dJ9_max_7cf53_2 : decode cJ9_max_7cf53 2 = .ok (.if_icmp .lt 7, 3) := by decide +kernel
theorem dJ9_max_7cf53_5 : decode cJ9_max_7cf53 5 = .ok (.iload_n 0, 1) := by decide +kernel
theorem dJ9_max_7cf53_6 : decode cJ9_max_7cf53 6 = .ok (.goto 4, 3) := by decide +kernel
theorem dJ9_max_7cf53_9 : decode cJ9_max_7cf53 9 = .ok (.iload_n 1, 1) := by decide +kernel
theorem dJ9_max_7cf53_10 : decode cJ9_max_7cf53 10 = .ok (.ireturn, 1) := by decide +kernel
theorem dJ9_min_7cf53_0 : decode cJ9_min_7cf53 0 = .ok (.iload_n 0, 1) := by decide +kernel
theorem dJ9_min_7cf53_1 : decode cJ9_min_7cf53 1 = .ok (.iload_n 1, 1) := by decide +kernel
theorem dJ9_min_7cf53_2 : decode cJ9_min_7cf53 2 = .ok (.if_icmp .gt 7, 3) := by decide +kernel
theorem dJ9_min_7cf53_5 : decode cJ9_min_7cf53 5 = .ok (.iload_n 0, 1) := by decide +kernel
theorem dJ9_min_7cf53_6 : decode cJ9_min_7cf53 6 = .ok (.goto 4, 3) := by decide +kernel
theorem dJ9_min_7cf53_9 : decode cJ9_min_7cf53 9 = .ok (.iload_n 1, 1) := by decide +kernel
theorem dJ9_min_7cf53_10 : decode cJ9_min_7cf53 10 = .ok (.ireturn, 1) := by decide +kernel
theorem dJ7_fill_53178_0 : decode cJ7_fill_53178 0 = .ok (.iconst 0, 1) := by decide +kernel
theorem dJ7_fill_53178_1 : decode cJ7_fill_53178 1 = .ok (.istore_n 2, 1) := by decide +kernel
theorem dJ7_fill_53178_2 : decode cJ7_fill_53178 2 = .ok (.aload_n 0, 1) := by decide +kernel
theorem dJ7_fill_53178_3 : decode cJ7_fill_53178 3 = .ok (.arraylength, 1) := by decide +kernel
theorem dJ7_fill_53178_4 : decode cJ7_fill_53178 4 = .ok (.istore_n 3, 1) := by decide +kernel
theorem dJ7_fill_53178_5 : decode cJ7_fill_53178 5 = .ok (.iload_n 2, 1) := by decide +kernel
theorem dJ7_fill_53178_6 : decode cJ7_fill_53178 6 = .ok (.iload_n 3, 1) := by decide +kernel
theorem dJ7_fill_53178_7 : decode cJ7_fill_53178 7 = .ok (.if_icmp .ge 13, 3) := by decide +kernel
theorem dJ7_fill_53178_10 : decode cJ7_fill_53178 10 = .ok (.aload_n 0, 1) := by decide +kernel
theorem dJ7_fill_53178_11 : decode cJ7_fill_53178 11 = .ok (.iload_n 2, 1) := by decide +kernel
theorem dJ7_fill_53178_12 : decode cJ7_fill_53178 12 = .ok (.iload_n 1, 1) := by decide +kernel
theorem dJ7_fill_53178_13 : decode cJ7_fill_53178 13 = .ok (.iastore, 1) := by decide +kernel
theorem dJ7_fill_53178_14 : decode cJ7_fill_53178 14 = .ok (.iinc 2 1, 3) := by decide +kernel
theorem dJ7_fill_53178_17 : decode cJ7_fill_53178 17 = .ok (.goto (-12), 3) := by decide +kernel
theorem dJ7_fill_53178_20 : decode cJ7_fill_53178 20 = .ok (.return_, 1) := by decide +kernel
