set_option maxHeartbeats 4000000 in
set_option maxRecDepth 100000 in
theorem c_X11_reach (l : Launch) (B : Nat) (D : va_G) (K : Nat → ClassId) (v1 : Int) (v2 : Int) (i_v1 : inR v1) (i_v2 : inR v2) (M : Mem) (hM : MR M) (Q : Int → Prop) (hf : f_X11_reach v1 v2 M Q) : CtI l yX11_reach cX11_reach 3 1 21 B D K [.ref (B + 0), J v1, J v2] M (fun r M1 => M = M1 ∧ Q r) := by
  refine ct_i (by decide) (Nat.le_of_ble_eq_true rfl) ?_
  intro p e s m args below meth c hC
  have hC : Cx p s m args meth c D K cX11_reach 3 RX11 (some .int) := hC
  unfold f_X11_reach at hf
  refine (show G p l e (rmF 1 21) s m args below meth c B D K 3 0 0 (ZI below args s B D K (fun r M1 => M = M1 ∧ Q r)) M 0 [(0, .ref (B + 0)), (1, J v1), (2, J v2)] [] from ?_)
  refine g_aload_n hC 0 dX11_reach_0 rfl rfl ?_
  refine g_getr hC okX11 sc0 2 (by decide) rfl wf_X11_28 dX11_reach_1 ?_
  refine g_iload_n hC 1 dX11_reach_4 rfl rfl ?_
  refine g_callVZ hC (sk := []) [J v1] (c_X5_isReach l B D K 12 v1 (Or.inr (Or.inl rfl)) i_v1 M hM _ hf) yv_X5_isReach wm_X11_193 okX5.1 (sh_X5 (Or.inr (Or.inl rfl))) rfl ⟨Nat.le_of_ble_eq_true rfl, Nat.le_of_ble_eq_true rfl, Nat.le_of_ble_eq_true rfl, Nat.le_of_ble_eq_true rfl⟩ rfl (Nat.le_of_ble_eq_true rfl) dX11_reach_5 ?_
  rintro r_1 M_2 h_r_1 - ⟨rfl, hf⟩
  refine g_if_ne hC 13 (zi_ h_r_1) dX11_reach_8 rfl (fun c_20 => ?_) (fun c_20 => ?_)
  · replace hf := hf.1 c_20
    refine g_iload_n hC 2 dX11_reach_13 rfl rfl ?_
    by_cases c_4 : v2 = 0
    · replace hf := hf.1 c_4
      refine g_tabIn hC 0 56 i_v2 c_4 dX11_reach_14 (by decide) (by decide) rfl rfl ?_
      refine g_aload_n hC 0 dX11_reach_56 rfl rfl ?_
      refine g_getr hC okX11 sc0 2 (by decide) rfl wf_X11_28 dX11_reach_57 ?_
      refine g_getr hC okX5 (sh_X5 (Or.inr (Or.inl rfl))) 2 (by decide) rfl wf_X11_197 dX11_reach_60 ?_
      refine g_iload_n hC 1 dX11_reach_63 rfl rfl ?_
      obtain ⟨q_3, hf⟩ := hf
      refine g_ialdk (v1.toNat) hC (sh_X5_2 (Or.inr (Or.inl rfl))) q_3.1 q_3.2 rfl dX11_reach_64 ?_
      exact g_reti hC (hM _ _) hM ⟨rfl, hf⟩ dX11_reach_65
    · replace hf := hf.2
      by_cases c_6 : v2 = 1
      · replace hf := hf.1 c_6
        refine g_tabIn hC 1 66 i_v2 c_6 dX11_reach_14 (by decide) (by decide) rfl rfl ?_
        refine g_aload_n hC 0 dX11_reach_66 rfl rfl ?_
        refine g_getr hC okX11 sc0 2 (by decide) rfl wf_X11_28 dX11_reach_67 ?_
        refine g_getr hC okX5 (sh_X5 (Or.inr (Or.inl rfl))) 3 (by decide) rfl wf_X11_200 dX11_reach_70 ?_
        refine g_iload_n hC 1 dX11_reach_73 rfl rfl ?_
        obtain ⟨q_5, hf⟩ := hf
        refine g_ialdk (v1.toNat) hC (sh_X5_3 (Or.inr (Or.inl rfl))) q_5.1 q_5.2 rfl dX11_reach_74 ?_
        exact g_reti hC (hM _ _) hM ⟨rfl, hf⟩ dX11_reach_75
      · replace hf := hf.2
        by_cases c_8 : v2 = 2
        · replace hf := hf.1 c_8
          refine g_tabIn hC 2 76 i_v2 c_8 dX11_reach_14 (by decide) (by decide) rfl rfl ?_
          refine g_aload_n hC 0 dX11_reach_76 rfl rfl ?_
          refine g_getr hC okX11 sc0 2 (by decide) rfl wf_X11_28 dX11_reach_77 ?_
          refine g_getr hC okX5 (sh_X5 (Or.inr (Or.inl rfl))) 4 (by decide) rfl wf_X11_203 dX11_reach_80 ?_
          refine g_iload_n hC 1 dX11_reach_83 rfl rfl ?_
          obtain ⟨q_7, hf⟩ := hf
          refine g_ialdk (v1.toNat) hC (sh_X5_4 (Or.inr (Or.inl rfl))) q_7.1 q_7.2 rfl dX11_reach_84 ?_
          exact g_reti hC (hM _ _) hM ⟨rfl, hf⟩ dX11_reach_85
        · replace hf := hf.2
          by_cases c_10 : v2 = 3
          · replace hf := hf.1 c_10
            refine g_tabIn hC 3 86 i_v2 c_10 dX11_reach_14 (by decide) (by decide) rfl rfl ?_
            refine g_aload_n hC 0 dX11_reach_86 rfl rfl ?_
            refine g_getr hC okX11 sc0 2 (by decide) rfl wf_X11_28 dX11_reach_87 ?_
            refine g_getr hC okX5 (sh_X5 (Or.inr (Or.inl rfl))) 5 (by decide) rfl wf_X11_206 dX11_reach_90 ?_
            refine g_iload_n hC 1 dX11_reach_93 rfl rfl ?_
            obtain ⟨q_9, hf⟩ := hf
            refine g_ialdk (v1.toNat) hC (sh_X5_5 (Or.inr (Or.inl rfl))) q_9.1 q_9.2 rfl dX11_reach_94 ?_
            exact g_reti hC (hM _ _) hM ⟨rfl, hf⟩ dX11_reach_95
          · replace hf := hf.2
            by_cases c_12 : v2 = 4
            · replace hf := hf.1 c_12
              refine g_tabIn hC 4 96 i_v2 c_12 dX11_reach_14 (by decide) (by decide) rfl rfl ?_
              refine g_aload_n hC 0 dX11_reach_96 rfl rfl ?_
              refine g_getr hC okX11 sc0 2 (by decide) rfl wf_X11_28 dX11_reach_97 ?_
              refine g_getr hC okX5 (sh_X5 (Or.inr (Or.inl rfl))) 6 (by decide) rfl wf_X11_209 dX11_reach_100 ?_
              refine g_iload_n hC 1 dX11_reach_103 rfl rfl ?_
              obtain ⟨q_11, hf⟩ := hf
              refine g_ialdk (v1.toNat) hC (sh_X5_6 (Or.inr (Or.inl rfl))) q_11.1 q_11.2 rfl dX11_reach_104 ?_
              exact g_reti hC (hM _ _) hM ⟨rfl, hf⟩ dX11_reach_105
            · replace hf := hf.2
              by_cases c_14 : v2 = 5
              · replace hf := hf.1 c_14
                refine g_tabIn hC 5 106 i_v2 c_14 dX11_reach_14 (by decide) (by decide) rfl rfl ?_
                refine g_aload_n hC 0 dX11_reach_106 rfl rfl ?_
                refine g_getr hC okX11 sc0 6 (by decide) rfl wf_X11_42 dX11_reach_107 ?_
                refine g_getr hC okX1 (sh_X1 (Or.inl rfl)) 10 (by decide) rfl wf_X11_177 dX11_reach_110 ?_
                refine g_getr hC okX2 (sh_X2 (fl_X1_10 (Or.inl rfl))) 0 (by decide) rfl wf_X11_212 dX11_reach_113 ?_
                refine g_iload_n hC 1 dX11_reach_116 rfl rfl ?_
                obtain ⟨q_13, hf⟩ := hf
                refine g_ialdk (v1.toNat) hC (sh_X2_0 (fl_X1_10 (Or.inl rfl))) q_13.1 q_13.2 rfl dX11_reach_117 ?_
                exact g_reti hC (hM _ _) hM ⟨rfl, hf⟩ dX11_reach_118
              · replace hf := hf.2
                by_cases c_18 : v2 = 6
                · replace hf := hf.1 c_18
                  refine g_tabIn hC 6 119 i_v2 c_18 dX11_reach_14 (by decide) (by decide) rfl rfl ?_
                  refine g_aload_n hC 0 dX11_reach_119 rfl rfl ?_
                  refine g_getr hC okX11 sc0 6 (by decide) rfl wf_X11_42 dX11_reach_120 ?_
                  refine g_getr hC okX1 (sh_X1 (Or.inl rfl)) 8 (by decide) rfl wf_X11_215 dX11_reach_123 ?_
                  refine g_iload_n hC 1 dX11_reach_126 rfl rfl ?_
                  obtain ⟨q_15, hf⟩ := hf
                  refine g_ialdk (v1.toNat) hC (sh_X1_8 (Or.inl rfl)) q_15.1 q_15.2 rfl dX11_reach_127 ?_
                  refine g_callSI hC (sk := []) [J (M 29 (v1.toNat))] (c_J6_bitCount_0f7a4 l B D K (M 29 (v1.toNat)) (hM _ _) M hM _ hf) yv_J6_bitCount_0f7a4 wm_X11_162 rfl ⟨Nat.le_of_ble_eq_true rfl, Nat.le_of_ble_eq_true rfl, Nat.le_of_ble_eq_true rfl, Nat.le_of_ble_eq_true rfl⟩ rfl (Nat.le_of_ble_eq_true rfl) dX11_reach_128 ?_
                  rintro r_16 M_17 h_r_16 - ⟨rfl, hf⟩
                  exact g_reti hC h_r_16 hM ⟨rfl, hf⟩ dX11_reach_131
                · replace hf := hf.2
                  have c_19 : v2 < 0 ∨ 6 < v2 := by omega
                  replace hf := hf c_19
                  refine g_tabOut hC 132 i_v2 dX11_reach_14 c_19 rfl ?_
                  refine g_iconst hC dX11_reach_132 ?_
                  exact g_reti hC (by unfold inR; omega) hM ⟨rfl, hf⟩ dX11_reach_133
  · replace hf := hf.2 c_20
    refine g_iconst hC dX11_reach_11 ?_
    exact g_reti hC (by unfold inR; omega) hM ⟨rfl, hf⟩ dX11_reach_12
set_option maxHeartbeats 4000000 in
set_option maxRecDepth 100000 in
theorem c_X11_place (l : Launch) (B : Nat) (D : va_G) (K : Nat → ClassId) (v1 : Int) (v2 : Int) (i_v1 : inR v1) (i_v2 : inR v2) (M : Mem) (hM : MR M) (Q : Int → Prop) (hf : f_X11_place v1 v2 M Q) : CtI l yX11_place cX11_place 3 1 21 B D K [.ref (B + 0), J v1, J v2] M (fun r M1 => M = M1 ∧ Q r) := by
  refine ct_i (by decide) (Nat.le_of_ble_eq_true rfl) ?_
  intro p e s m args below meth c hC
  have hC : Cx p s m args meth c D K cX11_place 3 RX11 (some .int) := hC
  unfold f_X11_place at hf
  refine (show G p l e (rmF 1 21) s m args below meth c B D K 3 0 0 (ZI below args s B D K (fun r M1 => M = M1 ∧ Q r)) M 0 [(0, .ref (B + 0)), (1, J v1), (2, J v2)] [] from ?_)
  refine g_aload_n hC 0 dX11_place_0 rfl rfl ?_
  refine g_getr hC okX11 sc0 2 (by decide) rfl wf_X11_28 dX11_place_1 ?_
  refine g_iload_n hC 1 dX11_place_4 rfl rfl ?_
  refine g_callVZ hC (sk := []) [J v1] (c_X5_isPlace l B D K 12 v1 (Or.inr (Or.inl rfl)) i_v1 M hM _ hf) yv_X5_isPlace wm_X11_218 okX5.1 (sh_X5 (Or.inr (Or.inl rfl))) rfl ⟨Nat.le_of_ble_eq_true rfl, Nat.le_of_ble_eq_true rfl, Nat.le_of_ble_eq_true rfl, Nat.le_of_ble_eq_true rfl⟩ rfl (Nat.le_of_ble_eq_true rfl) dX11_place_5 ?_
  rintro r_1 M_2 h_r_1 - ⟨rfl, hf⟩
  refine g_if_ne hC 13 (zi_ h_r_1) dX11_place_8 rfl (fun c_16 => ?_) (fun c_16 => ?_)
  · replace hf := hf.1 c_16
    refine g_iload_n hC 2 dX11_place_13 rfl rfl ?_
    by_cases c_4 : v2 = 0
    · replace hf := hf.1 c_4
      refine g_tabIn hC 0 56 i_v2 c_4 dX11_place_14 (by decide) (by decide) rfl rfl ?_
      refine g_aload_n hC 0 dX11_place_56 rfl rfl ?_
      refine g_getr hC okX11 sc0 6 (by decide) rfl wf_X11_42 dX11_place_57 ?_
      refine g_getr hC okX1 (sh_X1 (Or.inl rfl)) 2 (by decide) rfl wf_X11_221 dX11_place_60 ?_
      refine g_iload_n hC 1 dX11_place_63 rfl rfl ?_
      obtain ⟨q_3, hf⟩ := hf
      refine g_ialdk (v1.toNat) hC (sh_X1_2 (Or.inl rfl)) q_3.1 q_3.2 rfl dX11_place_64 ?_
      exact g_reti hC (hM _ _) hM ⟨rfl, hf⟩ dX11_place_65
    · replace hf := hf.2
      by_cases c_6 : v2 = 1
      · replace hf := hf.1 c_6
        refine g_tabIn hC 1 66 i_v2 c_6 dX11_place_14 (by decide) (by decide) rfl rfl ?_
        refine g_aload_n hC 0 dX11_place_66 rfl rfl ?_
        refine g_getr hC okX11 sc0 6 (by decide) rfl wf_X11_42 dX11_place_67 ?_
        refine g_getr hC okX1 (sh_X1 (Or.inl rfl)) 3 (by decide) rfl wf_X11_224 dX11_place_70 ?_
        refine g_iload_n hC 1 dX11_place_73 rfl rfl ?_
        obtain ⟨q_5, hf⟩ := hf
        refine g_ialdk (v1.toNat) hC (sh_X1_3 (Or.inl rfl)) q_5.1 q_5.2 rfl dX11_place_74 ?_
        exact g_reti hC (hM _ _) hM ⟨rfl, hf⟩ dX11_place_75
      · replace hf := hf.2
        by_cases c_7 : v2 = 2
        · replace hf := hf.1 c_7
          refine g_tabIn hC 2 76 i_v2 c_7 dX11_place_14 (by decide) (by decide) rfl rfl ?_
          refine g_aload_n hC 0 dX11_place_76 rfl rfl ?_
          refine g_getr hC okX11 sc0 6 (by decide) rfl wf_X11_42 dX11_place_77 ?_
          refine g_geti hC okX1 (sh_X1 (Or.inl rfl)) 11 (by decide) rfl wf_X11_159 dX11_place_80 ?_
          refine g_iload_n hC 1 dX11_place_83 rfl rfl ?_
          refine g_ishr hC dX11_place_84 ?_
          refine g_iconst hC dX11_place_85 ?_
          refine g_iand hC dX11_place_86 ?_
          exact g_reti hC (bAnd_in _ _) hM ⟨rfl, hf⟩ dX11_place_87
        · replace hf := hf.2
          by_cases c_8 : v2 = 3
          · replace hf := hf.1 c_8
            refine g_tabIn hC 3 88 i_v2 c_8 dX11_place_14 (by decide) (by decide) rfl rfl ?_
            refine g_aload_n hC 0 dX11_place_88 rfl rfl ?_
            refine g_getr hC okX11 sc0 6 (by decide) rfl wf_X11_42 dX11_place_89 ?_
            refine g_geti hC okX1 (sh_X1 (Or.inl rfl)) 12 (by decide) rfl wf_X11_167 dX11_place_92 ?_
            refine g_iload_n hC 1 dX11_place_95 rfl rfl ?_
            refine g_ishr hC dX11_place_96 ?_
            refine g_iconst hC dX11_place_97 ?_
            refine g_iand hC dX11_place_98 ?_
            exact g_reti hC (bAnd_in _ _) hM ⟨rfl, hf⟩ dX11_place_99
          · replace hf := hf.2
            by_cases c_10 : v2 = 4
            · replace hf := hf.1 c_10
              refine g_tabIn hC 4 100 i_v2 c_10 dX11_place_14 (by decide) (by decide) rfl rfl ?_
              refine g_aload_n hC 0 dX11_place_100 rfl rfl ?_
              refine g_getr hC okX11 sc0 6 (by decide) rfl wf_X11_42 dX11_place_101 ?_
              refine g_getr hC okX1 (sh_X1 (Or.inl rfl)) 10 (by decide) rfl wf_X11_177 dX11_place_104 ?_
              refine g_getr hC okX2 (sh_X2 (fl_X1_10 (Or.inl rfl))) 1 (by decide) rfl wf_X11_227 dX11_place_107 ?_
              refine g_iload_n hC 1 dX11_place_110 rfl rfl ?_
              obtain ⟨q_9, hf⟩ := hf
              refine g_ialdk (v1.toNat) hC (sh_X2_1 (fl_X1_10 (Or.inl rfl))) q_9.1 q_9.2 rfl dX11_place_111 ?_
              exact g_reti hC (hM _ _) hM ⟨rfl, hf⟩ dX11_place_112
            · replace hf := hf.2
              by_cases c_12 : v2 = 5
              · replace hf := hf.1 c_12
                refine g_tabIn hC 5 113 i_v2 c_12 dX11_place_14 (by decide) (by decide) rfl rfl ?_
                refine g_aload_n hC 0 dX11_place_113 rfl rfl ?_
                refine g_getr hC okX11 sc0 6 (by decide) rfl wf_X11_42 dX11_place_114 ?_
                refine g_getr hC okX1 (sh_X1 (Or.inl rfl)) 6 (by decide) rfl wf_X11_230 dX11_place_117 ?_
                refine g_iload_n hC 1 dX11_place_120 rfl rfl ?_
                obtain ⟨q_11, hf⟩ := hf
                refine g_ialdk (v1.toNat) hC (sh_X1_6 (Or.inl rfl)) q_11.1 q_11.2 rfl dX11_place_121 ?_
                exact g_reti hC (hM _ _) hM ⟨rfl, hf⟩ dX11_place_122
              · replace hf := hf.2
                by_cases c_14 : v2 = 6
                · replace hf := hf.1 c_14
                  refine g_tabIn hC 6 123 i_v2 c_14 dX11_place_14 (by decide) (by decide) rfl rfl ?_
                  refine g_aload_n hC 0 dX11_place_123 rfl rfl ?_
                  refine g_getr hC okX11 sc0 6 (by decide) rfl wf_X11_42 dX11_place_124 ?_
                  refine g_getr hC okX1 (sh_X1 (Or.inl rfl)) 7 (by decide) rfl wf_X11_233 dX11_place_127 ?_
                  refine g_iload_n hC 1 dX11_place_130 rfl rfl ?_
                  obtain ⟨q_13, hf⟩ := hf
                  refine g_ialdk (v1.toNat) hC (sh_X1_7 (Or.inl rfl)) q_13.1 q_13.2 rfl dX11_place_131 ?_
                  exact g_reti hC (hM _ _) hM ⟨rfl, hf⟩ dX11_place_132
                · replace hf := hf.2
                  have c_15 : v2 < 0 ∨ 6 < v2 := by omega
                  replace hf := hf c_15
                  refine g_tabOut hC 133 i_v2 dX11_place_14 c_15 rfl ?_
                  refine g_iconst hC dX11_place_133 ?_
                  exact g_reti hC (by unfold inR; omega) hM ⟨rfl, hf⟩ dX11_place_134
  · replace hf := hf.2 c_16
    refine g_iconst hC dX11_place_11 ?_
    exact g_reti hC (by unfold inR; omega) hM ⟨rfl, hf⟩ dX11_place_12
set_option maxHeartbeats 4000000 in
set_option maxRecDepth 100000 in
theorem c_X11_isWay (l : Launch) (B : Nat) (D : va_G) (K : Nat → ClassId) (v0 : Int) (i_v0 : inR v0) (M : Mem) (hM : MR M) (Q : Int → Prop) (hf : f_X11_isWay v0 M Q) : CtZ l yX11_isWay cX11_isWay 1 0 0 B D K [J v0] M (fun r M1 => M = M1 ∧ Q r) := by
  refine ct_z (by decide) (Nat.le_of_ble_eq_true rfl) ?_
  intro p e s m args below meth c hC
  have hC : Cx p s m args meth c D K cX11_isWay 1 RX11 (some .boolean) := hC
  unfold f_X11_isWay at hf
  refine (show G p l e (rmF 0 0) s m args below meth c B D K 1 0 0 (ZZ below args s B D K (fun r M1 => M = M1 ∧ Q r)) M 0 [(0, J v0)] [] from ?_)
  refine g_iload_n hC 0 dX11_isWay_0 rfl rfl ?_
  refine g_if_lt hC 13 i_v0 dX11_isWay_1 rfl (fun c_2 => ?_) (fun c_2 => ?_)
  · replace hf := hf.1 c_2
    refine g_iconst hC dX11_isWay_13 ?_
    exact g_retz hC (Or.inl rfl) hM ⟨rfl, hf⟩ dX11_isWay_14
  · replace hf := hf.2 c_2
    refine g_iload_n hC 0 dX11_isWay_4 rfl rfl ?_
    refine g_iconst hC dX11_isWay_5 ?_
    refine g_icmp_ge hC 13 i_v0 (by unfold inR; omega) dX11_isWay_6 rfl (fun c_1 => ?_) (fun c_1 => ?_)
    · replace hf := hf.1 c_1
      refine g_iconst hC dX11_isWay_13 ?_
      exact g_retz hC (Or.inl rfl) hM ⟨rfl, hf⟩ dX11_isWay_14
    · replace hf := hf.2 c_1
      refine g_iconst hC dX11_isWay_9 ?_
      refine g_goto hC 14 dX11_isWay_10 rfl ?_
      exact g_retz hC (Or.inr rfl) hM ⟨rfl, hf⟩ dX11_isWay_14
set_option maxHeartbeats 4000000 in
set_option maxRecDepth 100000 in
theorem c_X11_rankOf (l : Launch) (B : Nat) (D : va_G) (K : Nat → ClassId) (v1 : Int) (v2 : Int) (v3 : Int) (i_v1 : inR v1) (i_v2 : inR v2) (i_v3 : inR v3) (M : Mem) (hM : MR M) (Q : Int → Prop) (hf : f_X11_rankOf v1 v2 v3 M Q) : CtI l yX11_rankOf cX11_rankOf 4 1 20 B D K [.ref (B + 0), J v1, J v2, J v3] M (fun r M1 => M = M1 ∧ Q r) := by
  refine ct_i (by decide) (Nat.le_of_ble_eq_true rfl) ?_
  intro p e s m args below meth c hC
  have hC : Cx p s m args meth c D K cX11_rankOf 4 RX11 (some .int) := hC
  unfold f_X11_rankOf at hf
  refine (show G p l e (rmF 1 20) s m args below meth c B D K 4 0 0 (ZI below args s B D K (fun r M1 => M = M1 ∧ Q r)) M 0 [(0, .ref (B + 0)), (1, J v1), (2, J v2), (3, J v3)] [] from ?_)
  refine g_iload_n hC 2 dX11_rankOf_0 rfl rfl ?_
  by_cases c_2 : v2 = 0
  · replace hf := hf.1 c_2
    refine g_tabIn hC 0 32 i_v2 c_2 dX11_rankOf_1 (by decide) (by decide) rfl rfl ?_
    refine g_aload_n hC 0 dX11_rankOf_32 rfl rfl ?_
    refine g_getr hC okX11 sc0 6 (by decide) rfl wf_X11_42 dX11_rankOf_33 ?_
    refine g_getr hC okX1 (sh_X1 (Or.inl rfl)) 9 (by decide) rfl wf_X11_289 dX11_rankOf_36 ?_
    refine g_iload_n hC 1 dX11_rankOf_39 rfl rfl ?_
    obtain ⟨q_1, hf⟩ := hf
    refine g_ialdk (v1.toNat) hC (sh_X1_9 (Or.inl rfl)) q_1.1 q_1.2 rfl dX11_rankOf_40 ?_
    exact g_reti hC (hM _ _) hM ⟨rfl, hf⟩ dX11_rankOf_41
  · replace hf := hf.2
    by_cases c_6 : v2 = 1
    · replace hf := hf.1 c_6
      refine g_tabIn hC 1 42 i_v2 c_6 dX11_rankOf_1 (by decide) (by decide) rfl rfl ?_
      refine g_aload_n hC 0 dX11_rankOf_42 rfl rfl ?_
      refine g_getr hC okX11 sc0 6 (by decide) rfl wf_X11_42 dX11_rankOf_43 ?_
      refine g_getr hC okX1 (sh_X1 (Or.inl rfl)) 8 (by decide) rfl wf_X11_215 dX11_rankOf_46 ?_
      refine g_iload_n hC 1 dX11_rankOf_49 rfl rfl ?_
      obtain ⟨q_3, hf⟩ := hf
      refine g_ialdk (v1.toNat) hC (sh_X1_8 (Or.inl rfl)) q_3.1 q_3.2 rfl dX11_rankOf_50 ?_
      refine g_callSI hC (sk := []) [J (M 29 (v1.toNat))] (c_J6_bitCount_0f7a4 l B D K (M 29 (v1.toNat)) (hM _ _) M hM _ hf) yv_J6_bitCount_0f7a4 wm_X11_162 rfl ⟨Nat.le_of_ble_eq_true rfl, Nat.le_of_ble_eq_true rfl, Nat.le_of_ble_eq_true rfl, Nat.le_of_ble_eq_true rfl⟩ rfl (Nat.le_of_ble_eq_true rfl) dX11_rankOf_51 ?_
      rintro r_4 M_5 h_r_4 - ⟨rfl, hf⟩
      exact g_reti hC h_r_4 hM ⟨rfl, hf⟩ dX11_rankOf_54
    · replace hf := hf.2
      by_cases c_9 : v2 = 2
      · replace hf := hf.1 c_9
        refine g_tabIn hC 2 55 i_v2 c_9 dX11_rankOf_1 (by decide) (by decide) rfl rfl ?_
        refine g_aload_n hC 0 dX11_rankOf_55 rfl rfl ?_
        refine g_getr hC okX11 sc0 7 (by decide) rfl wf_X11_49 dX11_rankOf_56 ?_
        refine g_iload_n hC 3 dX11_rankOf_59 rfl rfl ?_
        obtain ⟨q_7, hf⟩ := hf
        refine g_aald hC sc36 q_7.1 q_7.2 dX11_rankOf_60 ?_
        refine g_getr hC okX9 (sh_X9 (st_X9 q_7.1 q_7.2)) 4 (by decide) rfl wf_X11_418 dX11_rankOf_61 ?_
        refine g_iload_n hC 1 dX11_rankOf_64 rfl rfl ?_
        obtain ⟨q_8, hf⟩ := hf
        refine g_ialdk (v1.toNat) hC (sh_X9_4 (st_X9 q_7.1 q_7.2)) q_8.1 q_8.2 rfl dX11_rankOf_65 ?_
        exact g_reti hC (hM _ _) hM ⟨rfl, hf⟩ dX11_rankOf_66
      · replace hf := hf.2
        by_cases c_12 : v2 = 3
        · replace hf := hf.1 c_12
          refine g_tabIn hC 3 67 i_v2 c_12 dX11_rankOf_1 (by decide) (by decide) rfl rfl ?_
          refine g_aload_n hC 0 dX11_rankOf_67 rfl rfl ?_
          refine g_getr hC okX11 sc0 7 (by decide) rfl wf_X11_49 dX11_rankOf_68 ?_
          refine g_iload_n hC 3 dX11_rankOf_71 rfl rfl ?_
          obtain ⟨q_10, hf⟩ := hf
          refine g_aald hC sc36 q_10.1 q_10.2 dX11_rankOf_72 ?_
          refine g_getr hC okX9 (sh_X9 (st_X9 q_10.1 q_10.2)) 5 (by decide) rfl wf_X11_421 dX11_rankOf_73 ?_
          refine g_iload_n hC 1 dX11_rankOf_76 rfl rfl ?_
          obtain ⟨q_11, hf⟩ := hf
          refine g_ialdk (v1.toNat) hC (sh_X9_5 (st_X9 q_10.1 q_10.2)) q_11.1 q_11.2 rfl dX11_rankOf_77 ?_
          exact g_reti hC (hM _ _) hM ⟨rfl, hf⟩ dX11_rankOf_78
        · replace hf := hf.2
          have c_13 : v2 < 0 ∨ 3 < v2 := by omega
          replace hf := hf c_13
          refine g_tabOut hC 79 i_v2 dX11_rankOf_1 c_13 rfl ?_
          refine g_iconst hC dX11_rankOf_79 ?_
          exact g_reti hC (by unfold inR; omega) hM ⟨rfl, hf⟩ dX11_rankOf_80
set_option maxHeartbeats 4000000 in
set_option maxRecDepth 100000 in
theorem c_X11_rank (l : Launch) (B : Nat) (D : va_G) (K : Nat → ClassId) (v1 : Int) (v2 : Int) (v3 : Int) (i_v1 : inR v1) (i_v2 : inR v2) (i_v3 : inR v3) (M : Mem) (hM : MR M) (Q : Int → Prop) (hf : f_X11_rank v1 v2 v3 M Q) : CtI l yX11_rank cX11_rank 4 2 43 B D K [.ref (B + 0), J v1, J v2, J v3] M (fun r M1 => M = M1 ∧ Q r) := by
  refine ct_i (by decide) (Nat.le_of_ble_eq_true rfl) ?_
  intro p e s m args below meth c hC
  have hC : Cx p s m args meth c D K cX11_rank 4 RX11 (some .int) := hC
  unfold f_X11_rank at hf
  refine (show G p l e (rmF 2 43) s m args below meth c B D K 4 0 0 (ZI below args s B D K (fun r M1 => M = M1 ∧ Q r)) M 0 [(0, .ref (B + 0)), (1, J v1), (2, J v2), (3, J v3)] [] from ?_)
  refine g_aload_n hC 0 dX11_rank_0 rfl rfl ?_
  refine g_getr hC okX11 sc0 2 (by decide) rfl wf_X11_28 dX11_rank_1 ?_
  refine g_iload_n hC 1 dX11_rank_4 rfl rfl ?_
  refine g_callVZ hC (sk := []) [J v1] (c_X5_isReach l B D K 12 v1 (Or.inr (Or.inl rfl)) i_v1 M hM _ hf) yv_X5_isReach wm_X11_193 okX5.1 (sh_X5 (Or.inr (Or.inl rfl))) rfl ⟨Nat.le_of_ble_eq_true rfl, Nat.le_of_ble_eq_true rfl, Nat.le_of_ble_eq_true rfl, Nat.le_of_ble_eq_true rfl⟩ rfl (Nat.le_of_ble_eq_true rfl) dX11_rank_5 ?_
  rintro r_1 M_2 h_r_1 - ⟨rfl, hf⟩
  refine g_if_ne hC 13 (zi_ h_r_1) dX11_rank_8 rfl (fun c_12 => ?_) (fun c_12 => ?_)
  · replace hf := hf.1 c_12
    refine g_iload_n hC 2 dX11_rank_13 rfl rfl ?_
    refine g_iconst hC dX11_rank_14 ?_
    refine jn_elim (fun (k : Prop) => k → G p l e (rmF 2 43) s m args below meth c B D K 4 0 0 (ZI below args s B D K (fun r M1 => M = M1 ∧ Q r)) M 23 [(0, .ref (B + 0)), (1, J v1), (2, J v2), (3, J v3)] []) hf ?_ ?_
    · intro hf
      refine g_iload_n hC 3 dX11_rank_23 rfl rfl ?_
      refine g_callSZ hC (sk := []) [J v3] (c_X11_isWay l B D K v3 i_v3 M hM _ hf) yv_X11_isWay wm_X11_236 rfl ⟨Nat.le_of_ble_eq_true rfl, Nat.le_of_ble_eq_true rfl, Nat.le_of_ble_eq_true rfl, Nat.le_of_ble_eq_true rfl⟩ rfl (Nat.le_of_ble_eq_true rfl) dX11_rank_24 ?_
      rintro r_3 M_4 h_r_3 - ⟨rfl, hf⟩
      refine g_if_eq hC 40 (zi_ h_r_3) dX11_rank_27 rfl (fun c_7 => ?_) (fun c_7 => ?_)
      · replace hf := hf.1 c_7
        refine g_iconst hC dX11_rank_40 ?_
        exact g_reti hC (by unfold inR; omega) hM ⟨rfl, hf⟩ dX11_rank_41
      · replace hf := hf.2 c_7
        refine g_aload_n hC 0 dX11_rank_30 rfl rfl ?_
        refine g_iload_n hC 1 dX11_rank_31 rfl rfl ?_
        refine g_iload_n hC 2 dX11_rank_32 rfl rfl ?_
        refine g_iload_n hC 3 dX11_rank_33 rfl rfl ?_
        refine g_callVI hC (sk := []) [J v1, J v2, J v3] (c_X11_rankOf l B D K v1 v2 v3 i_v1 i_v2 i_v3 M hM _ hf) yv_X11_rankOf wm_X11_239 okX11.1 sc0 rfl ⟨Nat.le_of_ble_eq_true rfl, Nat.le_of_ble_eq_true rfl, Nat.le_of_ble_eq_true rfl, Nat.le_of_ble_eq_true rfl⟩ rfl (Nat.le_of_ble_eq_true rfl) dX11_rank_34 ?_
        rintro r_5 M_6 h_r_5 - ⟨rfl, hf⟩
        refine g_goto hC 41 dX11_rank_37 rfl ?_
        exact g_reti hC h_r_5 hM ⟨rfl, hf⟩ dX11_rank_41
    · intro J23 hJ23 hf
      refine g_icmp_eq hC 23 i_v2 (by unfold inR; omega) dX11_rank_15 rfl (fun c_11 => ?_) (fun c_11 => ?_)
      · replace hf := hf.1 c_11
        refine g_sub [(0, .ref (B + 0)), (1, J v1), (2, J v2), (3, J v3)] [0, 1, 2, 3] rfl ?_
        exact hJ23 hf
      · replace hf := hf.2 c_11
        refine g_iload_n hC 2 dX11_rank_18 rfl rfl ?_
        refine g_iconst hC dX11_rank_19 ?_
        refine g_icmp_ne hC 42 i_v2 (by unfold inR; omega) dX11_rank_20 rfl (fun c_10 => ?_) (fun c_10 => ?_)
        · replace hf := hf.1 c_10
          refine g_aload_n hC 0 dX11_rank_42 rfl rfl ?_
          refine g_iload_n hC 1 dX11_rank_43 rfl rfl ?_
          refine g_iload_n hC 2 dX11_rank_44 rfl rfl ?_
          refine g_iconst hC dX11_rank_45 ?_
          refine g_callVI hC (sk := []) [J v1, J v2, J 0] (c_X11_rankOf l B D K v1 v2 0 i_v1 i_v2 (by unfold inR; omega) M hM _ hf) yv_X11_rankOf wm_X11_239 okX11.1 sc0 rfl ⟨Nat.le_of_ble_eq_true rfl, Nat.le_of_ble_eq_true rfl, Nat.le_of_ble_eq_true rfl, Nat.le_of_ble_eq_true rfl⟩ rfl (Nat.le_of_ble_eq_true rfl) dX11_rank_46 ?_
          rintro r_8 M_9 h_r_8 - ⟨rfl, hf⟩
          exact g_reti hC h_r_8 hM ⟨rfl, hf⟩ dX11_rank_49
        · replace hf := hf.2 c_10
          refine g_sub [(0, .ref (B + 0)), (1, J v1), (2, J v2), (3, J v3)] [0, 1, 2, 3] rfl ?_
          exact hJ23 hf
  · replace hf := hf.2 c_12
    refine g_iconst hC dX11_rank_11 ?_
    exact g_reti hC (by unfold inR; omega) hM ⟨rfl, hf⟩ dX11_rank_12
set_option maxHeartbeats 4000000 in
set_option maxRecDepth 100000 in
theorem c_X11_goes (l : Launch) (B : Nat) (D : va_G) (K : Nat → ClassId) (v1 : Int) (v2 : Int) (v3 : Int) (i_v1 : inR v1) (i_v2 : inR v2) (i_v3 : inR v3) (M : Mem) (hM : MR M) (Q : Int → Prop) (hf : f_X11_goes v1 v2 v3 M Q) : CtI l yX11_goes cX11_goes 4 1 21 B D K [.ref (B + 0), J v1, J v2, J v3] M (fun r M1 => M = M1 ∧ Q r) := by
  refine ct_i (by decide) (Nat.le_of_ble_eq_true rfl) ?_
  intro p e s m args below meth c hC
  have hC : Cx p s m args meth c D K cX11_goes 4 RX11 (some .int) := hC
  unfold f_X11_goes at hf
  refine (show G p l e (rmF 1 21) s m args below meth c B D K 4 0 0 (ZI below args s B D K (fun r M1 => M = M1 ∧ Q r)) M 0 [(0, .ref (B + 0)), (1, J v1), (2, J v2), (3, J v3)] [] from ?_)
  refine g_aload_n hC 0 dX11_goes_0 rfl rfl ?_
  refine g_getr hC okX11 sc0 2 (by decide) rfl wf_X11_28 dX11_goes_1 ?_
  refine g_iload_n hC 1 dX11_goes_4 rfl rfl ?_
  refine g_callVZ hC (sk := []) [J v1] (c_X5_isReach l B D K 12 v1 (Or.inr (Or.inl rfl)) i_v1 M hM _ hf) yv_X5_isReach wm_X11_193 okX5.1 (sh_X5 (Or.inr (Or.inl rfl))) rfl ⟨Nat.le_of_ble_eq_true rfl, Nat.le_of_ble_eq_true rfl, Nat.le_of_ble_eq_true rfl, Nat.le_of_ble_eq_true rfl⟩ rfl (Nat.le_of_ble_eq_true rfl) dX11_goes_5 ?_
  rintro r_1 M_2 h_r_1 - ⟨rfl, hf⟩
  refine g_if_eq hC 18 (zi_ h_r_1) dX11_goes_8 rfl (fun c_12 => ?_) (fun c_12 => ?_)
  · replace hf := hf.1 c_12
    refine g_iconst hC dX11_goes_18 ?_
    exact g_reti hC (by unfold inR; omega) hM ⟨rfl, hf⟩ dX11_goes_19
  · replace hf := hf.2 c_12
    refine g_iload_n hC 2 dX11_goes_11 rfl rfl ?_
    refine g_callSZ hC (sk := []) [J v2] (c_X11_isWay l B D K v2 i_v2 M hM _ hf) yv_X11_isWay wm_X11_236 rfl ⟨Nat.le_of_ble_eq_true rfl, Nat.le_of_ble_eq_true rfl, Nat.le_of_ble_eq_true rfl, Nat.le_of_ble_eq_true rfl⟩ rfl (Nat.le_of_ble_eq_true rfl) dX11_goes_12 ?_
    rintro r_3 M_4 h_r_3 - ⟨rfl, hf⟩
    refine g_if_ne hC 20 (zi_ h_r_3) dX11_goes_15 rfl (fun c_11 => ?_) (fun c_11 => ?_)
    · replace hf := hf.1 c_11
      refine g_iload_n hC 3 dX11_goes_20 rfl rfl ?_
      by_cases c_7 : v3 = 0
      · replace hf := hf.1 c_7
        refine g_look (off := 27) hC 48 i_v3 dX11_goes_21 rfl (by first | (rw [c_7]; done) | (rw [c_7]; rfl)) rfl ?_
        refine g_aload_n hC 0 dX11_goes_48 rfl rfl ?_
        refine g_getr hC okX11 sc0 7 (by decide) rfl wf_X11_49 dX11_goes_49 ?_
        refine g_iload_n hC 2 dX11_goes_52 rfl rfl ?_
        obtain ⟨q_5, hf⟩ := hf
        refine g_aald hC sc36 q_5.1 q_5.2 dX11_goes_53 ?_
        refine g_getr hC okX9 (sh_X9 (st_X9 q_5.1 q_5.2)) 2 (by decide) rfl wf_X11_243 dX11_goes_54 ?_
        refine g_iload_n hC 1 dX11_goes_57 rfl rfl ?_
        obtain ⟨q_6, hf⟩ := hf
        refine g_ialdk (v1.toNat) hC (sh_X9_2 (st_X9 q_5.1 q_5.2)) q_6.1 q_6.2 rfl dX11_goes_58 ?_
        exact g_reti hC (hM _ _) hM ⟨rfl, hf⟩ dX11_goes_59
      · replace hf := hf.2
        by_cases c_10 : v3 = 1
        · replace hf := hf.1 c_10
          refine g_look (off := 39) hC 60 i_v3 dX11_goes_21 rfl (by first | (rw [c_10]; done) | (rw [c_10]; rfl)) rfl ?_
          refine g_aload_n hC 0 dX11_goes_60 rfl rfl ?_
          refine g_getr hC okX11 sc0 7 (by decide) rfl wf_X11_49 dX11_goes_61 ?_
          refine g_iload_n hC 2 dX11_goes_64 rfl rfl ?_
          obtain ⟨q_8, hf⟩ := hf
          refine g_aald hC sc36 q_8.1 q_8.2 dX11_goes_65 ?_
          refine g_getr hC okX9 (sh_X9 (st_X9 q_8.1 q_8.2)) 3 (by decide) rfl wf_X11_246 dX11_goes_66 ?_
          refine g_iload_n hC 1 dX11_goes_69 rfl rfl ?_
          obtain ⟨q_9, hf⟩ := hf
          refine g_ialdk (v1.toNat) hC (sh_X9_3 (st_X9 q_8.1 q_8.2)) q_9.1 q_9.2 rfl dX11_goes_70 ?_
          exact g_reti hC (hM _ _) hM ⟨rfl, hf⟩ dX11_goes_71
        · replace hf := hf.2
          replace hf := hf ⟨c_7, c_10⟩
          refine g_look (off := 51) hC 72 i_v3 dX11_goes_21 rfl (by simp [Op.lookupswitch.offset, c_7, c_10, Ne.symm c_7, Ne.symm c_10]) rfl ?_
          refine g_iconst hC dX11_goes_72 ?_
          exact g_reti hC (by unfold inR; omega) hM ⟨rfl, hf⟩ dX11_goes_73
    · replace hf := hf.2 c_11
      refine g_iconst hC dX11_goes_18 ?_
      exact g_reti hC (by unfold inR; omega) hM ⟨rfl, hf⟩ dX11_goes_19
set_option maxHeartbeats 4000000 in
set_option maxRecDepth 100000 in
theorem c_X11_stem (l : Launch) (B : Nat) (D : va_G) (K : Nat → ClassId) (v1 : Int) (v2 : Int) (v3 : Int) (i_v1 : inR v1) (i_v2 : inR v2) (i_v3 : inR v3) (M : Mem) (hM : MR M) (Q : Int → Prop) (hf : f_X11_stem v1 v2 v3 M Q) : CtI l yX11_stem cX11_stem 6 1 24 B D K [.ref (B + 0), J v1, J v2, J v3] M (fun r M1 => M = M1 ∧ Q r) := by
  refine ct_i (by decide) (Nat.le_of_ble_eq_true rfl) ?_
  intro p e s m args below meth c hC
  have hC : Cx p s m args meth c D K cX11_stem 6 RX11 (some .int) := hC
  unfold f_X11_stem at hf
  refine (show G p l e (rmF 1 24) s m args below meth c B D K 6 0 0 (ZI below args s B D K (fun r M1 => M = M1 ∧ Q r)) M 0 [(0, .ref (B + 0)), (1, J v1), (2, J v2), (3, J v3)] [] from ?_)
  refine g_aload_n hC 0 dX11_stem_0 rfl rfl ?_
  refine g_getr hC okX11 sc0 2 (by decide) rfl wf_X11_28 dX11_stem_1 ?_
  refine g_iload_n hC 1 dX11_stem_4 rfl rfl ?_
  refine g_callVZ hC (sk := []) [J v1] (c_X5_isReach l B D K 12 v1 (Or.inr (Or.inl rfl)) i_v1 M hM _ hf) yv_X5_isReach wm_X11_193 okX5.1 (sh_X5 (Or.inr (Or.inl rfl))) rfl ⟨Nat.le_of_ble_eq_true rfl, Nat.le_of_ble_eq_true rfl, Nat.le_of_ble_eq_true rfl, Nat.le_of_ble_eq_true rfl⟩ rfl (Nat.le_of_ble_eq_true rfl) dX11_stem_5 ?_
  rintro r_1 M_2 h_r_1 - ⟨rfl, hf⟩
  refine g_if_eq hC 18 (zi_ h_r_1) dX11_stem_8 rfl (fun c_14 => ?_) (fun c_14 => ?_)
  · replace hf := hf.1 c_14
    refine g_iconst hC dX11_stem_18 ?_
    exact g_reti hC (by unfold inR; omega) hM ⟨rfl, hf⟩ dX11_stem_19
  · replace hf := hf.2 c_14
    refine g_iload_n hC 2 dX11_stem_11 rfl rfl ?_
    refine g_callSZ hC (sk := []) [J v2] (c_X11_isWay l B D K v2 i_v2 M hM _ hf) yv_X11_isWay wm_X11_236 rfl ⟨Nat.le_of_ble_eq_true rfl, Nat.le_of_ble_eq_true rfl, Nat.le_of_ble_eq_true rfl, Nat.le_of_ble_eq_true rfl⟩ rfl (Nat.le_of_ble_eq_true rfl) dX11_stem_12 ?_
    rintro r_3 M_4 h_r_3 - ⟨rfl, hf⟩
    refine g_if_ne hC 20 (zi_ h_r_3) dX11_stem_15 rfl (fun c_13 => ?_) (fun c_13 => ?_)
    · replace hf := hf.1 c_13
      refine g_aload_n hC 0 dX11_stem_20 rfl rfl ?_
      refine g_getr hC okX11 sc0 7 (by decide) rfl wf_X11_49 dX11_stem_21 ?_
      refine g_iload_n hC 2 dX11_stem_24 rfl rfl ?_
      obtain ⟨q_5, hf⟩ := hf
      refine g_aald hC sc36 q_5.1 q_5.2 dX11_stem_25 ?_
      refine g_astore hC [(4, .ref (B + (37 + 7 * v2.toNat))), (0, .ref (B + 0)), (1, J v1), (2, J v2), (3, J v3)] dX11_stem_26 (by decide) rfl ?_
      refine g_aload hC 0 dX11_stem_28 rfl ?_
      refine g_iload_n hC 2 dX11_stem_30 rfl rfl ?_
      refine g_callVI hC (sk := []) [J v1] (c_X9_topOf l B D K (37 + 7 * v2.toNat) v1 (st_X9 q_5.1 q_5.2) i_v1 M hM _ hf) yv_X9_topOf wm_X11_249 okX9.1 (sh_X9 (st_X9 q_5.1 q_5.2)) rfl ⟨Nat.le_of_ble_eq_true rfl, Nat.le_of_ble_eq_true rfl, Nat.le_of_ble_eq_true rfl, Nat.le_of_ble_eq_true rfl⟩ rfl (Nat.le_of_ble_eq_true rfl) dX11_stem_31 ?_
      rintro r_6 M_7 h_r_6 - ⟨rfl, hf⟩
      refine g_istore hC [(5, J r_6), (4, .ref (B + (37 + 7 * v2.toNat))), (0, .ref (B + 0)), (1, J v1), (2, J v2), (3, J v3)] dX11_stem_34 (by decide) rfl ?_
      refine g_iload_n hC 5 dX11_stem_36 rfl rfl ?_
      refine g_iconst hC dX11_stem_37 ?_
      refine g_icmp_ne hC 51 i_v3 (by unfold inR; omega) dX11_stem_38 rfl (fun c_12 => ?_) (fun c_12 => ?_)
      · replace hf := hf.1 c_12
        refine g_aload hC 1 dX11_stem_51 rfl ?_
        refine g_iload hC 0 dX11_stem_53 rfl ?_
        refine g_iload_n hC 5 dX11_stem_55 rfl rfl ?_
        refine g_callVI hC (sk := []) [J r_6, J v3] (c_X9_nth l B D K (37 + 7 * v2.toNat) r_6 v3 (st_X9 q_5.1 q_5.2) h_r_6 i_v3 M hM _ hf) yv_X9_nth wm_X11_255 okX9.1 (sh_X9 (st_X9 q_5.1 q_5.2)) rfl ⟨Nat.le_of_ble_eq_true rfl, Nat.le_of_ble_eq_true rfl, Nat.le_of_ble_eq_true rfl, Nat.le_of_ble_eq_true rfl⟩ rfl (Nat.le_of_ble_eq_true rfl) dX11_stem_56 ?_
        rintro r_8 M_9 h_r_8 - ⟨rfl, hf⟩
        exact g_reti hC h_r_8 hM ⟨rfl, hf⟩ dX11_stem_59
      · replace hf := hf.2 c_12
        refine g_aload hC 1 dX11_stem_41 rfl ?_
        refine g_iload hC 0 dX11_stem_43 rfl ?_
        refine g_callVI hC (sk := []) [J r_6] (c_X9_howMany l B D K (37 + 7 * v2.toNat) r_6 (st_X9 q_5.1 q_5.2) h_r_6 M hM _ hf) yv_X9_howMany wm_X11_252 okX9.1 (sh_X9 (st_X9 q_5.1 q_5.2)) rfl ⟨Nat.le_of_ble_eq_true rfl, Nat.le_of_ble_eq_true rfl, Nat.le_of_ble_eq_true rfl, Nat.le_of_ble_eq_true rfl⟩ rfl (Nat.le_of_ble_eq_true rfl) dX11_stem_45 ?_
        rintro r_10 M_11 h_r_10 - ⟨rfl, hf⟩
        refine g_goto hC 59 dX11_stem_48 rfl ?_
        exact g_reti hC h_r_10 hM ⟨rfl, hf⟩ dX11_stem_59
    · replace hf := hf.2 c_13
      refine g_iconst hC dX11_stem_18 ?_
      exact g_reti hC (by unfold inR; omega) hM ⟨rfl, hf⟩ dX11_stem_19
set_option maxHeartbeats 4000000 in
set_option maxRecDepth 100000 in
theorem c_X11_stems (l : Launch) (B : Nat) (D : va_G) (K : Nat → ClassId) (v1 : Int) (v2 : Int) (i_v1 : inR v1) (i_v2 : inR v2) (M : Mem) (hM : MR M) (Q : Int → Prop) (hf : f_X11_stems v1 v2 M Q) : CtI l yX11_stems cX11_stems 5 2 50 B D K [.ref (B + 0), J v1, J v2] M (fun r M1 => M = M1 ∧ Q r) := by
  refine ct_i (by decide) (Nat.le_of_ble_eq_true rfl) ?_
  intro p e s m args below meth c hC
  have hC : Cx p s m args meth c D K cX11_stems 5 RX11 (some .int) := hC
  unfold f_X11_stems at hf
  refine (show G p l e (rmF 2 50) s m args below meth c B D K 5 0 0 (ZI below args s B D K (fun r M1 => M = M1 ∧ Q r)) M 0 [(0, .ref (B + 0)), (1, J v1), (2, J v2)] [] from ?_)
  refine g_iload_n hC 1 dX11_stems_0 rfl rfl ?_
  refine g_callSZ hC (sk := []) [J v1] (c_X11_isWay l B D K v1 i_v1 M hM _ hf) yv_X11_isWay wm_X11_236 rfl ⟨Nat.le_of_ble_eq_true rfl, Nat.le_of_ble_eq_true rfl, Nat.le_of_ble_eq_true rfl, Nat.le_of_ble_eq_true rfl⟩ rfl (Nat.le_of_ble_eq_true rfl) dX11_stems_1 ?_
  rintro r_1 M_2 h_r_1 - ⟨rfl, hf⟩
  refine g_if_ne hC 9 (zi_ h_r_1) dX11_stems_4 rfl (fun c_18 => ?_) (fun c_18 => ?_)
  · replace hf := hf.1 c_18
    refine g_aload_n hC 0 dX11_stems_9 rfl rfl ?_
    refine g_getr hC okX11 sc0 7 (by decide) rfl wf_X11_49 dX11_stems_10 ?_
    refine g_iload_n hC 1 dX11_stems_13 rfl rfl ?_
    obtain ⟨q_3, hf⟩ := hf
    refine g_aald hC sc36 q_3.1 q_3.2 dX11_stems_14 ?_
    refine g_astore_n hC [(3, .ref (B + (37 + 7 * v1.toNat))), (0, .ref (B + 0)), (1, J v1), (2, J v2)] dX11_stems_15 rfl (by decide) rfl ?_
    refine g_iload_n hC 3 dX11_stems_16 rfl rfl ?_
    refine g_if_ne hC 29 i_v2 dX11_stems_17 rfl (fun c_17 => ?_) (fun c_17 => ?_)
    · replace hf := hf.1 c_17
      refine g_aload_n hC 0 dX11_stems_29 rfl rfl ?_
      refine g_aload_n hC 1 dX11_stems_30 rfl rfl ?_
      refine g_getr hC okX11 sc0 2 (by decide) rfl wf_X11_28 dX11_stems_31 ?_
      refine g_callVI hC (sk := []) [.ref (B + 12)] (c_X9_longest l B D K (37 + 7 * v1.toNat) 12 (st_X9 q_3.1 q_3.2) (Or.inr (Or.inl rfl)) M hM _ hf) yv_X9_longest wm_X11_261 okX9.1 (sh_X9 (st_X9 q_3.1 q_3.2)) rfl ⟨Nat.le_of_ble_eq_true rfl, Nat.le_of_ble_eq_true rfl, Nat.le_of_ble_eq_true rfl, Nat.le_of_ble_eq_true rfl⟩ rfl (Nat.le_of_ble_eq_true rfl) dX11_stems_34 ?_
      rintro r_4 M_5 h_r_4 - ⟨rfl, hf⟩
      refine g_istore hC [(4, J r_4), (3, .ref (B + (37 + 7 * v1.toNat))), (0, .ref (B + 0)), (1, J v1), (2, J v2)] dX11_stems_37 (by decide) rfl ?_
      refine g_iload hC 0 dX11_stems_39 rfl ?_
      refine g_iconst hC dX11_stems_41 ?_
      refine g_icmp_ne hC 47 h_r_4 (by unfold inR; omega) dX11_stems_42 rfl (fun c_14 => ?_) (fun c_14 => ?_)
      · replace hf := hf.1 c_14
        refine g_iload_n hC 4 dX11_stems_47 rfl rfl ?_
        by_cases c_8 : v2 = 1
        · replace hf := hf.1 c_8
          refine g_tabIn hC 1 76 i_v2 c_8 dX11_stems_48 (by decide) (by decide) rfl rfl ?_
          refine g_aload_n hC 1 dX11_stems_76 rfl rfl ?_
          refine g_iload hC 0 dX11_stems_77 rfl ?_
          refine g_callVI hC (sk := []) [J r_4] (c_X9_howMany l B D K (37 + 7 * v1.toNat) r_4 (st_X9 q_3.1 q_3.2) h_r_4 M hM _ hf) yv_X9_howMany wm_X11_252 okX9.1 (sh_X9 (st_X9 q_3.1 q_3.2)) rfl ⟨Nat.le_of_ble_eq_true rfl, Nat.le_of_ble_eq_true rfl, Nat.le_of_ble_eq_true rfl, Nat.le_of_ble_eq_true rfl⟩ rfl (Nat.le_of_ble_eq_true rfl) dX11_stems_79 ?_
          rintro r_6 M_7 h_r_6 - ⟨rfl, hf⟩
          exact g_reti hC h_r_6 hM ⟨rfl, hf⟩ dX11_stems_82
        · replace hf := hf.2
          by_cases c_11 : v2 = 2
          · replace hf := hf.1 c_11
            refine g_tabIn hC 2 83 i_v2 c_11 dX11_stems_48 (by decide) (by decide) rfl rfl ?_
            refine g_aload_n hC 1 dX11_stems_83 rfl rfl ?_
            refine g_aload_n hC 2 dX11_stems_84 rfl rfl ?_
            refine g_getr hC okX11 sc0 2 (by decide) rfl wf_X11_28 dX11_stems_85 ?_
            refine g_iload hC 0 dX11_stems_88 rfl ?_
            refine g_callVI hC (sk := []) [.ref (B + 12), J r_4] (c_X9_lengthOf l B D K (37 + 7 * v1.toNat) 12 r_4 (st_X9 q_3.1 q_3.2) (Or.inr (Or.inl rfl)) h_r_4 M hM _ hf) yv_X9_lengthOf wm_X11_264 okX9.1 (sh_X9 (st_X9 q_3.1 q_3.2)) rfl ⟨Nat.le_of_ble_eq_true rfl, Nat.le_of_ble_eq_true rfl, Nat.le_of_ble_eq_true rfl, Nat.le_of_ble_eq_true rfl⟩ rfl (Nat.le_of_ble_eq_true rfl) dX11_stems_90 ?_
            rintro r_9 M_10 h_r_9 - ⟨rfl, hf⟩
            exact g_reti hC h_r_9 hM ⟨rfl, hf⟩ dX11_stems_93
          · replace hf := hf.2
            by_cases c_12 : v2 = 3
            · replace hf := hf.1 c_12
              refine g_tabIn hC 3 94 i_v2 c_12 dX11_stems_48 (by decide) (by decide) rfl rfl ?_
              refine g_iload hC 0 dX11_stems_94 rfl ?_
              exact g_reti hC h_r_4 hM ⟨rfl, hf⟩ dX11_stems_96
            · replace hf := hf.2
              have c_13 : v2 < 1 ∨ 3 < v2 := by omega
              replace hf := hf c_13
              refine g_tabOut hC 97 i_v2 dX11_stems_48 c_13 rfl ?_
              refine g_iconst hC dX11_stems_97 ?_
              exact g_reti hC (by unfold inR; omega) hM ⟨rfl, hf⟩ dX11_stems_98
      · replace hf := hf.2 c_14
        refine g_iconst hC dX11_stems_45 ?_
        exact g_reti hC (by unfold inR; omega) hM ⟨rfl, hf⟩ dX11_stems_46
    · replace hf := hf.2 c_17
      refine g_aload_n hC 0 dX11_stems_20 rfl rfl ?_
      refine g_aload_n hC 1 dX11_stems_21 rfl rfl ?_
      refine g_getr hC okX11 sc0 2 (by decide) rfl wf_X11_28 dX11_stems_22 ?_
      refine g_callVI hC (sk := []) [.ref (B + 12)] (c_X9_howManyStems l B D K (37 + 7 * v1.toNat) 12 (st_X9 q_3.1 q_3.2) (Or.inr (Or.inl rfl)) M hM _ hf) yv_X9_howManyStems wm_X11_258 okX9.1 (sh_X9 (st_X9 q_3.1 q_3.2)) rfl ⟨Nat.le_of_ble_eq_true rfl, Nat.le_of_ble_eq_true rfl, Nat.le_of_ble_eq_true rfl, Nat.le_of_ble_eq_true rfl⟩ rfl (Nat.le_of_ble_eq_true rfl) dX11_stems_25 ?_
      rintro r_15 M_16 h_r_15 - ⟨rfl, hf⟩
      exact g_reti hC h_r_15 hM ⟨rfl, hf⟩ dX11_stems_28
  · replace hf := hf.2 c_18
    refine g_iconst hC dX11_stems_7 ?_
    exact g_reti hC (by unfold inR; omega) hM ⟨rfl, hf⟩ dX11_stems_8
set_option maxHeartbeats 4000000 in
set_option maxRecDepth 100000 in
theorem c_X11_beyond (l : Launch) (B : Nat) (D : va_G) (K : Nat → ClassId) (v1 : Int) (v2 : Int) (i_v1 : inR v1) (i_v2 : inR v2) (M : Mem) (hM : MR M) (Q : Int → Prop) (hf : f_X11_beyond v1 v2 M Q) : CtI l yX11_beyond cX11_beyond 3 1 21 B D K [.ref (B + 0), J v1, J v2] M (fun r M1 => M = M1 ∧ Q r) := by
  refine ct_i (by decide) (Nat.le_of_ble_eq_true rfl) ?_
  intro p e s m args below meth c hC
  have hC : Cx p s m args meth c D K cX11_beyond 3 RX11 (some .int) := hC
  unfold f_X11_beyond at hf
  refine (show G p l e (rmF 1 21) s m args below meth c B D K 3 0 0 (ZI below args s B D K (fun r M1 => M = M1 ∧ Q r)) M 0 [(0, .ref (B + 0)), (1, J v1), (2, J v2)] [] from ?_)
  refine g_aload_n hC 0 dX11_beyond_0 rfl rfl ?_
  refine g_getr hC okX11 sc0 2 (by decide) rfl wf_X11_28 dX11_beyond_1 ?_
  refine g_iload_n hC 1 dX11_beyond_4 rfl rfl ?_
  refine g_callVZ hC (sk := []) [J v1] (c_X5_isPlace l B D K 12 v1 (Or.inr (Or.inl rfl)) i_v1 M hM _ hf) yv_X5_isPlace wm_X11_218 okX5.1 (sh_X5 (Or.inr (Or.inl rfl))) rfl ⟨Nat.le_of_ble_eq_true rfl, Nat.le_of_ble_eq_true rfl, Nat.le_of_ble_eq_true rfl, Nat.le_of_ble_eq_true rfl⟩ rfl (Nat.le_of_ble_eq_true rfl) dX11_beyond_5 ?_
  rintro r_1 M_2 h_r_1 - ⟨rfl, hf⟩
  refine g_if_ne hC 13 (zi_ h_r_1) dX11_beyond_8 rfl (fun c_7 => ?_) (fun c_7 => ?_)
  · replace hf := hf.1 c_7
    refine g_iload_n hC 2 dX11_beyond_13 rfl rfl ?_
    by_cases c_4 : v2 = 0
    · replace hf := hf.1 c_4
      refine g_look (off := 26) hC 40 i_v2 dX11_beyond_14 rfl (by first | (rw [c_4]; done) | (rw [c_4]; rfl)) rfl ?_
      refine g_aload_n hC 0 dX11_beyond_40 rfl rfl ?_
      refine g_getr hC okX11 sc0 6 (by decide) rfl wf_X11_42 dX11_beyond_41 ?_
      refine g_getr hC okX1 (sh_X1 (Or.inl rfl)) 4 (by decide) rfl wf_X11_268 dX11_beyond_44 ?_
      refine g_iload_n hC 1 dX11_beyond_47 rfl rfl ?_
      obtain ⟨q_3, hf⟩ := hf
      refine g_ialdk (v1.toNat) hC (sh_X1_4 (Or.inl rfl)) q_3.1 q_3.2 rfl dX11_beyond_48 ?_
      exact g_reti hC (hM _ _) hM ⟨rfl, hf⟩ dX11_beyond_49
    · replace hf := hf.2
      by_cases c_6 : v2 = 1
      · replace hf := hf.1 c_6
        refine g_look (off := 36) hC 50 i_v2 dX11_beyond_14 rfl (by first | (rw [c_6]; done) | (rw [c_6]; rfl)) rfl ?_
        refine g_aload_n hC 0 dX11_beyond_50 rfl rfl ?_
        refine g_getr hC okX11 sc0 6 (by decide) rfl wf_X11_42 dX11_beyond_51 ?_
        refine g_getr hC okX1 (sh_X1 (Or.inl rfl)) 5 (by decide) rfl wf_X11_271 dX11_beyond_54 ?_
        refine g_iload_n hC 1 dX11_beyond_57 rfl rfl ?_
        obtain ⟨q_5, hf⟩ := hf
        refine g_ialdk (v1.toNat) hC (sh_X1_5 (Or.inl rfl)) q_5.1 q_5.2 rfl dX11_beyond_58 ?_
        exact g_reti hC (hM _ _) hM ⟨rfl, hf⟩ dX11_beyond_59
      · replace hf := hf.2
        replace hf := hf ⟨c_4, c_6⟩
        refine g_look (off := 46) hC 60 i_v2 dX11_beyond_14 rfl (by simp [Op.lookupswitch.offset, c_4, c_6, Ne.symm c_4, Ne.symm c_6]) rfl ?_
        refine g_iconst hC dX11_beyond_60 ?_
        exact g_reti hC (by unfold inR; omega) hM ⟨rfl, hf⟩ dX11_beyond_61
  · replace hf := hf.2 c_7
    refine g_iconst hC dX11_beyond_11 ?_
    exact g_reti hC (by unfold inR; omega) hM ⟨rfl, hf⟩ dX11_beyond_12
set_option maxHeartbeats 4000000 in
set_option maxRecDepth 100000 in
theorem c_X11_springs (l : Launch) (B : Nat) (D : va_G) (K : Nat → ClassId) (v1 : Int) (i_v1 : inR v1) (M : Mem) (hM : MR M) (Q : Int → Prop) (hf : f_X11_springs v1 M Q) : CtI l yX11_springs cX11_springs 2 1 21 B D K [.ref (B + 0), J v1] M (fun r M1 => M = M1 ∧ Q r) := by
  refine ct_i (by decide) (Nat.le_of_ble_eq_true rfl) ?_
  intro p e s m args below meth c hC
  have hC : Cx p s m args meth c D K cX11_springs 2 RX11 (some .int) := hC
  unfold f_X11_springs at hf
  refine (show G p l e (rmF 1 21) s m args below meth c B D K 2 0 0 (ZI below args s B D K (fun r M1 => M = M1 ∧ Q r)) M 0 [(0, .ref (B + 0)), (1, J v1)] [] from ?_)
  refine g_aload_n hC 0 dX11_springs_0 rfl rfl ?_
  refine g_getr hC okX11 sc0 2 (by decide) rfl wf_X11_28 dX11_springs_1 ?_
  refine g_iload_n hC 1 dX11_springs_4 rfl rfl ?_
  refine g_callVZ hC (sk := []) [J v1] (c_X5_isReach l B D K 12 v1 (Or.inr (Or.inl rfl)) i_v1 M hM _ hf) yv_X5_isReach wm_X11_193 okX5.1 (sh_X5 (Or.inr (Or.inl rfl))) rfl ⟨Nat.le_of_ble_eq_true rfl, Nat.le_of_ble_eq_true rfl, Nat.le_of_ble_eq_true rfl, Nat.le_of_ble_eq_true rfl⟩ rfl (Nat.le_of_ble_eq_true rfl) dX11_springs_5 ?_
  rintro r_1 M_2 h_r_1 - ⟨rfl, hf⟩
  refine g_if_eq hC 23 (zi_ h_r_1) dX11_springs_8 rfl (fun c_4 => ?_) (fun c_4 => ?_)
  · replace hf := hf.1 c_4
    refine g_iconst hC dX11_springs_23 ?_
    exact g_reti hC (by unfold inR; omega) hM ⟨rfl, hf⟩ dX11_springs_24
  · replace hf := hf.2 c_4
    refine g_aload_n hC 0 dX11_springs_11 rfl rfl ?_
    refine g_getr hC okX11 sc0 6 (by decide) rfl wf_X11_42 dX11_springs_12 ?_
    refine g_getr hC okX1 (sh_X1 (Or.inl rfl)) 8 (by decide) rfl wf_X11_215 dX11_springs_15 ?_
    refine g_iload_n hC 1 dX11_springs_18 rfl rfl ?_
    obtain ⟨q_3, hf⟩ := hf
    refine g_ialdk (v1.toNat) hC (sh_X1_8 (Or.inl rfl)) q_3.1 q_3.2 rfl dX11_springs_19 ?_
    refine g_goto hC 24 dX11_springs_20 rfl ?_
    exact g_reti hC (hM _ _) hM ⟨rfl, hf⟩ dX11_springs_24
set_option maxHeartbeats 4000000 in
set_option maxRecDepth 100000 in
theorem c_X11_ways (l : Launch) (B : Nat) (D : va_G) (K : Nat → ClassId) (v1 : Int) (v2 : Int) (i_v1 : inR v1) (i_v2 : inR v2) (M : Mem) (hM : MR M) (Q : Int → Mem → Prop) (hf : f_X11_ways v1 v2 M Q) : CtI l yX11_ways cX11_ways 3 2 67 B D K [.ref (B + 0), J v1, J v2] M Q := by
  refine ct_i (by decide) (Nat.le_of_ble_eq_true rfl) ?_
  intro p e s m args below meth c hC
  have hC : Cx p s m args meth c D K cX11_ways 3 RX11 (some .int) := hC
  unfold f_X11_ways at hf
  refine (show G p l e (rmF 2 67) s m args below meth c B D K 3 0 0 (ZI below args s B D K Q) M 0 [(0, .ref (B + 0)), (1, J v1), (2, J v2)] [] from ?_)
  refine g_aload_n hC 0 dX11_ways_0 rfl rfl ?_
  refine g_getr hC okX11 sc0 2 (by decide) rfl wf_X11_28 dX11_ways_1 ?_
  refine g_iload_n hC 1 dX11_ways_4 rfl rfl ?_
  refine g_callVZ hC (sk := []) [J v1] (c_X5_isPlace l B D K 12 v1 (Or.inr (Or.inl rfl)) i_v1 M hM _ hf) yv_X5_isPlace wm_X11_218 okX5.1 (sh_X5 (Or.inr (Or.inl rfl))) rfl ⟨Nat.le_of_ble_eq_true rfl, Nat.le_of_ble_eq_true rfl, Nat.le_of_ble_eq_true rfl, Nat.le_of_ble_eq_true rfl⟩ rfl (Nat.le_of_ble_eq_true rfl) dX11_ways_5 ?_
  rintro r_1 M_2 h_r_1 - ⟨rfl, hf⟩
  refine g_if_eq hC 22 (zi_ h_r_1) dX11_ways_8 rfl (fun c_8 => ?_) (fun c_8 => ?_)
  · replace hf := hf.1 c_8
    refine g_iconst hC dX11_ways_22 ?_
    exact g_reti hC (by unfold inR; omega) hM hf dX11_ways_23
  · replace hf := hf.2 c_8
    refine g_aload_n hC 0 dX11_ways_11 rfl rfl ?_
    refine g_getr hC okX11 sc0 2 (by decide) rfl wf_X11_28 dX11_ways_12 ?_
    refine g_iload_n hC 2 dX11_ways_15 rfl rfl ?_
    refine g_callVZ hC (sk := []) [J v2] (c_X5_isPlace l B D K 12 v2 (Or.inr (Or.inl rfl)) i_v2 M hM _ hf) yv_X5_isPlace wm_X11_218 okX5.1 (sh_X5 (Or.inr (Or.inl rfl))) rfl ⟨Nat.le_of_ble_eq_true rfl, Nat.le_of_ble_eq_true rfl, Nat.le_of_ble_eq_true rfl, Nat.le_of_ble_eq_true rfl⟩ rfl (Nat.le_of_ble_eq_true rfl) dX11_ways_16 ?_
    rintro r_3 M_4 h_r_3 - ⟨rfl, hf⟩
    refine g_if_ne hC 24 (zi_ h_r_3) dX11_ways_19 rfl (fun c_7 => ?_) (fun c_7 => ?_)
    · replace hf := hf.1 c_7
      refine g_aload_n hC 0 dX11_ways_24 rfl rfl ?_
      refine g_getr hC okX11 sc0 12 (by decide) rfl wf_X11_84 dX11_ways_25 ?_
      refine g_aload_n hC 0 dX11_ways_28 rfl rfl ?_
      refine g_getr hC okX11 sc0 2 (by decide) rfl wf_X11_28 dX11_ways_29 ?_
      refine g_aload_n hC 0 dX11_ways_32 rfl rfl ?_
      refine g_getr hC okX11 sc0 6 (by decide) rfl wf_X11_42 dX11_ways_33 ?_
      refine g_iload_n hC 1 dX11_ways_36 rfl rfl ?_
      refine g_iload_n hC 2 dX11_ways_37 rfl rfl ?_
      refine g_callVI hC (sk := []) [.ref (B + 12), .ref (B + 20), J v1, J v2] (c_X7_howManyWays l B D K 12 20 v1 v2 (Or.inr (Or.inl rfl)) (Or.inl rfl) i_v1 i_v2 M hM _ hf) yv_X7_howManyWays wm_X11_274 okX7.1 sc68 rfl ⟨Nat.le_of_ble_eq_true rfl, Nat.le_of_ble_eq_true rfl, Nat.le_of_ble_eq_true rfl, Nat.le_of_ble_eq_true rfl⟩ rfl (Nat.le_of_ble_eq_true rfl) dX11_ways_38 ?_
      intro r_5 M_6 h_r_5 h_M_6 hf
      exact g_reti hC h_r_5 h_M_6 hf dX11_ways_41
    · replace hf := hf.2 c_7
      refine g_iconst hC dX11_ways_22 ?_
      exact g_reti hC (by unfold inR; omega) hM hf dX11_ways_23
set_option maxHeartbeats 4000000 in
set_option maxRecDepth 100000 in
theorem c_X11_far (l : Launch) (B : Nat) (D : va_G) (K : Nat → ClassId) (v1 : Int) (v2 : Int) (v3 : Int) (i_v1 : inR v1) (i_v2 : inR v2) (i_v3 : inR v3) (M : Mem) (hM : MR M) (Q : Int → Mem → Prop) (hf : f_X11_far v1 v2 v3 M Q) : CtI l yX11_far cX11_far 4 2 52 B D K [.ref (B + 0), J v1, J v2, J v3] M Q := by
  refine ct_i (by decide) (Nat.le_of_ble_eq_true rfl) ?_
  intro p e s m args below meth c hC
  have hC : Cx p s m args meth c D K cX11_far 4 RX11 (some .int) := hC
  unfold f_X11_far at hf
  refine (show G p l e (rmF 2 52) s m args below meth c B D K 4 0 0 (ZI below args s B D K Q) M 0 [(0, .ref (B + 0)), (1, J v1), (2, J v2), (3, J v3)] [] from ?_)
  refine g_aload_n hC 0 dX11_far_0 rfl rfl ?_
  refine g_getr hC okX11 sc0 2 (by decide) rfl wf_X11_28 dX11_far_1 ?_
  refine g_iload_n hC 1 dX11_far_4 rfl rfl ?_
  refine g_callVZ hC (sk := []) [J v1] (c_X5_isPlace l B D K 12 v1 (Or.inr (Or.inl rfl)) i_v1 M hM _ hf) yv_X5_isPlace wm_X11_218 okX5.1 (sh_X5 (Or.inr (Or.inl rfl))) rfl ⟨Nat.le_of_ble_eq_true rfl, Nat.le_of_ble_eq_true rfl, Nat.le_of_ble_eq_true rfl, Nat.le_of_ble_eq_true rfl⟩ rfl (Nat.le_of_ble_eq_true rfl) dX11_far_5 ?_
  rintro r_1 M_2 h_r_1 - ⟨rfl, hf⟩
  refine g_if_eq hC 31 (zi_ h_r_1) dX11_far_8 rfl (fun c_12 => ?_) (fun c_12 => ?_)
  · replace hf := hf.1 c_12
    refine g_iconst hC dX11_far_31 ?_
    exact g_reti hC (by unfold inR; omega) hM hf dX11_far_32
  · replace hf := hf.2 c_12
    refine g_aload_n hC 0 dX11_far_11 rfl rfl ?_
    refine g_getr hC okX11 sc0 2 (by decide) rfl wf_X11_28 dX11_far_12 ?_
    refine g_iload_n hC 2 dX11_far_15 rfl rfl ?_
    refine g_callVZ hC (sk := []) [J v2] (c_X5_isPlace l B D K 12 v2 (Or.inr (Or.inl rfl)) i_v2 M hM _ hf) yv_X5_isPlace wm_X11_218 okX5.1 (sh_X5 (Or.inr (Or.inl rfl))) rfl ⟨Nat.le_of_ble_eq_true rfl, Nat.le_of_ble_eq_true rfl, Nat.le_of_ble_eq_true rfl, Nat.le_of_ble_eq_true rfl⟩ rfl (Nat.le_of_ble_eq_true rfl) dX11_far_16 ?_
    rintro r_3 M_4 h_r_3 - ⟨rfl, hf⟩
    refine g_if_eq hC 31 (zi_ h_r_3) dX11_far_19 rfl (fun c_11 => ?_) (fun c_11 => ?_)
    · replace hf := hf.1 c_11
      refine g_iconst hC dX11_far_31 ?_
      exact g_reti hC (by unfold inR; omega) hM hf dX11_far_32
    · replace hf := hf.2 c_11
      refine g_iload_n hC 3 dX11_far_22 rfl rfl ?_
      refine g_if_lt hC 31 i_v3 dX11_far_23 rfl (fun c_10 => ?_) (fun c_10 => ?_)
      · replace hf := hf.1 c_10
        refine g_iconst hC dX11_far_31 ?_
        exact g_reti hC (by unfold inR; omega) hM hf dX11_far_32
      · replace hf := hf.2 c_10
        refine g_iload_n hC 3 dX11_far_26 rfl rfl ?_
        refine g_iconst hC dX11_far_27 ?_
        refine g_icmp_le hC 33 i_v3 (by unfold inR; omega) dX11_far_28 rfl (fun c_9 => ?_) (fun c_9 => ?_)
        · replace hf := hf.1 c_9
          refine g_aload_n hC 0 dX11_far_33 rfl rfl ?_
          refine g_getr hC okX11 sc0 12 (by decide) rfl wf_X11_84 dX11_far_34 ?_
          refine g_aload_n hC 0 dX11_far_37 rfl rfl ?_
          refine g_getr hC okX11 sc0 2 (by decide) rfl wf_X11_28 dX11_far_38 ?_
          refine g_aload_n hC 0 dX11_far_41 rfl rfl ?_
          refine g_getr hC okX11 sc0 6 (by decide) rfl wf_X11_42 dX11_far_42 ?_
          refine g_iload_n hC 1 dX11_far_45 rfl rfl ?_
          refine g_iload_n hC 2 dX11_far_46 rfl rfl ?_
          refine g_iload_n hC 3 dX11_far_47 rfl rfl ?_
          refine g_iconst hC dX11_far_48 ?_
          refine jn_elim (fun (k : Int → Prop) => ∀ (s5_5 : Int), k s5_5 → ((s5_5 = 0 ∨ s5_5 = 1)) → G p l e (rmF 2 52) s m args below meth c B D K 4 0 0 (ZI below args s B D K Q) M 57 [] [J s5_5, J v2, J v1, .ref (B + 20), .ref (B + 12), .ref (B + 68)]) hf ?_ ?_
          · intro s5_5 hf h_s5_5
            refine g_callVI hC (sk := []) [.ref (B + 12), .ref (B + 20), J v1, J v2, J s5_5] (c_X7_lengthOfWay l B D K 12 20 v1 v2 s5_5 (Or.inr (Or.inl rfl)) (Or.inl rfl) i_v1 i_v2 (zi_ h_s5_5) M hM _ hf) yv_X7_lengthOfWay wm_X11_278 okX7.1 sc68 rfl ⟨Nat.le_of_ble_eq_true rfl, Nat.le_of_ble_eq_true rfl, Nat.le_of_ble_eq_true rfl, Nat.le_of_ble_eq_true rfl⟩ rfl (Nat.le_of_ble_eq_true rfl) dX11_far_57 ?_
            intro r_6 M_7 h_r_6 h_M_7 hf
            exact g_reti hC h_r_6 h_M_7 hf dX11_far_60
          · intro J57 hJ57 hf
            refine g_icmp_ne hC 56 i_v3 (by unfold inR; omega) dX11_far_49 rfl (fun c_8 => ?_) (fun c_8 => ?_)
            · replace hf := hf.1 c_8
              refine g_iconst hC dX11_far_56 ?_
              refine g_sub [] [] rfl ?_
              exact hJ57 0 hf (Or.inl rfl)
            · replace hf := hf.2 c_8
              refine g_iconst hC dX11_far_52 ?_
              refine g_goto hC 57 dX11_far_53 rfl ?_
              refine g_sub [] [] rfl ?_
              exact hJ57 1 hf (Or.inr rfl)
        · replace hf := hf.2 c_9
          refine g_iconst hC dX11_far_31 ?_
          exact g_reti hC (by unfold inR; omega) hM hf dX11_far_32
set_option maxHeartbeats 4000000 in
set_option maxRecDepth 100000 in
theorem c_X11_waters (l : Launch) (B : Nat) (D : va_G) (K : Nat → ClassId) (v1 : Int) (v2 : Int) (i_v1 : inR v1) (i_v2 : inR v2) (M : Mem) (hM : MR M) (Q : Int → Prop) (hf : f_X11_waters v1 v2 M Q) : CtI l yX11_waters cX11_waters 3 1 25 B D K [.ref (B + 0), J v1, J v2] M (fun r M1 => M = M1 ∧ Q r) := by
  refine ct_i (by decide) (Nat.le_of_ble_eq_true rfl) ?_
  intro p e s m args below meth c hC
  have hC : Cx p s m args meth c D K cX11_waters 3 RX11 (some .int) := hC
  unfold f_X11_waters at hf
  refine (show G p l e (rmF 1 25) s m args below meth c B D K 3 0 0 (ZI below args s B D K (fun r M1 => M = M1 ∧ Q r)) M 0 [(0, .ref (B + 0)), (1, J v1), (2, J v2)] [] from ?_)
  refine g_aload_n hC 0 dX11_waters_0 rfl rfl ?_
  refine g_getr hC okX11 sc0 2 (by decide) rfl wf_X11_28 dX11_waters_1 ?_
  refine g_iload_n hC 1 dX11_waters_4 rfl rfl ?_
  refine g_callVZ hC (sk := []) [J v1] (c_X5_isPlace l B D K 12 v1 (Or.inr (Or.inl rfl)) i_v1 M hM _ hf) yv_X5_isPlace wm_X11_218 okX5.1 (sh_X5 (Or.inr (Or.inl rfl))) rfl ⟨Nat.le_of_ble_eq_true rfl, Nat.le_of_ble_eq_true rfl, Nat.le_of_ble_eq_true rfl, Nat.le_of_ble_eq_true rfl⟩ rfl (Nat.le_of_ble_eq_true rfl) dX11_waters_5 ?_
  rintro r_1 M_2 h_r_1 - ⟨rfl, hf⟩
  refine g_if_eq hC 22 (zi_ h_r_1) dX11_waters_8 rfl (fun c_8 => ?_) (fun c_8 => ?_)
  · replace hf := hf.1 c_8
    refine g_iconst hC dX11_waters_22 ?_
    exact g_reti hC (by unfold inR; omega) hM ⟨rfl, hf⟩ dX11_waters_23
  · replace hf := hf.2 c_8
    refine g_aload_n hC 0 dX11_waters_11 rfl rfl ?_
    refine g_getr hC okX11 sc0 2 (by decide) rfl wf_X11_28 dX11_waters_12 ?_
    refine g_iload_n hC 2 dX11_waters_15 rfl rfl ?_
    refine g_callVZ hC (sk := []) [J v2] (c_X5_isPlace l B D K 12 v2 (Or.inr (Or.inl rfl)) i_v2 M hM _ hf) yv_X5_isPlace wm_X11_218 okX5.1 (sh_X5 (Or.inr (Or.inl rfl))) rfl ⟨Nat.le_of_ble_eq_true rfl, Nat.le_of_ble_eq_true rfl, Nat.le_of_ble_eq_true rfl, Nat.le_of_ble_eq_true rfl⟩ rfl (Nat.le_of_ble_eq_true rfl) dX11_waters_16 ?_
    rintro r_3 M_4 h_r_3 - ⟨rfl, hf⟩
    refine g_if_ne hC 24 (zi_ h_r_3) dX11_waters_19 rfl (fun c_7 => ?_) (fun c_7 => ?_)
    · replace hf := hf.1 c_7
      refine g_aload_n hC 0 dX11_waters_24 rfl rfl ?_
      refine g_getr hC okX11 sc0 6 (by decide) rfl wf_X11_42 dX11_waters_25 ?_
      refine g_aload_n hC 0 dX11_waters_28 rfl rfl ?_
      refine g_getr hC okX11 sc0 2 (by decide) rfl wf_X11_28 dX11_waters_29 ?_
      refine g_iload_n hC 1 dX11_waters_32 rfl rfl ?_
      refine g_iload_n hC 2 dX11_waters_33 rfl rfl ?_
      refine g_callVI hC (sk := []) [.ref (B + 12), J v1, J v2] (c_X1_meeting l B D K 20 12 v1 v2 (Or.inl rfl) (Or.inr (Or.inl rfl)) i_v1 i_v2 M hM _ hf) yv_X1_meeting wm_X11_282 okX1.1 (sh_X1 (Or.inl rfl)) rfl ⟨Nat.le_of_ble_eq_true rfl, Nat.le_of_ble_eq_true rfl, Nat.le_of_ble_eq_true rfl, Nat.le_of_ble_eq_true rfl⟩ rfl (Nat.le_of_ble_eq_true rfl) dX11_waters_34 ?_
      rintro r_5 M_6 h_r_5 - ⟨rfl, hf⟩
      exact g_reti hC h_r_5 hM ⟨rfl, hf⟩ dX11_waters_37
    · replace hf := hf.2 c_7
      refine g_iconst hC dX11_waters_22 ?_
      exact g_reti hC (by unfold inR; omega) hM ⟨rfl, hf⟩ dX11_waters_23
set_option maxHeartbeats 4000000 in
set_option maxRecDepth 100000 in
theorem c_X11_braid (l : Launch) (B : Nat) (D : va_G) (K : Nat → ClassId) (v1 : Int) (i_v1 : inR v1) (M : Mem) (hM : MR M) (Q : Int → Prop) (hf : f_X11_braid v1 M Q) : CtI l yX11_braid cX11_braid 2 2 50 B D K [.ref (B + 0), J v1] M (fun r M1 => M = M1 ∧ Q r) := by
  refine ct_i (by decide) (Nat.le_of_ble_eq_true rfl) ?_
  intro p e s m args below meth c hC
  have hC : Cx p s m args meth c D K cX11_braid 2 RX11 (some .int) := hC
  unfold f_X11_braid at hf
  refine (show G p l e (rmF 2 50) s m args below meth c B D K 2 0 0 (ZI below args s B D K (fun r M1 => M = M1 ∧ Q r)) M 0 [(0, .ref (B + 0)), (1, J v1)] [] from ?_)
  refine g_aload_n hC 0 dX11_braid_0 rfl rfl ?_
  refine g_getr hC okX11 sc0 2 (by decide) rfl wf_X11_28 dX11_braid_1 ?_
  refine g_iload_n hC 1 dX11_braid_4 rfl rfl ?_
  refine g_callVZ hC (sk := []) [J v1] (c_X5_isPlace l B D K 12 v1 (Or.inr (Or.inl rfl)) i_v1 M hM _ hf) yv_X5_isPlace wm_X11_218 okX5.1 (sh_X5 (Or.inr (Or.inl rfl))) rfl ⟨Nat.le_of_ble_eq_true rfl, Nat.le_of_ble_eq_true rfl, Nat.le_of_ble_eq_true rfl, Nat.le_of_ble_eq_true rfl⟩ rfl (Nat.le_of_ble_eq_true rfl) dX11_braid_5 ?_
  rintro r_1 M_2 h_r_1 - ⟨rfl, hf⟩
  refine g_if_eq hC 24 (zi_ h_r_1) dX11_braid_8 rfl (fun c_7 => ?_) (fun c_7 => ?_)
  · replace hf := hf.1 c_7
    refine g_iconst hC dX11_braid_24 ?_
    exact g_reti hC (by unfold inR; omega) hM ⟨rfl, hf⟩ dX11_braid_25
  · replace hf := hf.2 c_7
    refine g_aload_n hC 0 dX11_braid_11 rfl rfl ?_
    refine g_getr hC okX11 sc0 6 (by decide) rfl wf_X11_42 dX11_braid_12 ?_
    refine g_getr hC okX1 (sh_X1 (Or.inl rfl)) 3 (by decide) rfl wf_X11_224 dX11_braid_15 ?_
    refine g_iload_n hC 1 dX11_braid_18 rfl rfl ?_
    obtain ⟨q_3, hf⟩ := hf
    refine g_ialdk (v1.toNat) hC (sh_X1_3 (Or.inl rfl)) q_3.1 q_3.2 rfl dX11_braid_19 ?_
    refine g_iconst hC dX11_braid_20 ?_
    refine g_icmp_ge hC 26 (hM _ _) (by unfold inR; omega) dX11_braid_21 rfl (fun c_6 => ?_) (fun c_6 => ?_)
    · replace hf := hf.1 c_6
      refine g_aload_n hC 0 dX11_braid_26 rfl rfl ?_
      refine g_getr hC okX11 sc0 6 (by decide) rfl wf_X11_42 dX11_braid_27 ?_
      refine g_aload_n hC 0 dX11_braid_30 rfl rfl ?_
      refine g_getr hC okX11 sc0 2 (by decide) rfl wf_X11_28 dX11_braid_31 ?_
      refine g_iload_n hC 1 dX11_braid_34 rfl rfl ?_
      refine g_callVI hC (sk := []) [.ref (B + 12), J v1] (c_X1_joining l B D K 20 12 v1 (Or.inl rfl) (Or.inr (Or.inl rfl)) i_v1 M hM _ hf) yv_X1_joining wm_X11_286 okX1.1 (sh_X1 (Or.inl rfl)) rfl ⟨Nat.le_of_ble_eq_true rfl, Nat.le_of_ble_eq_true rfl, Nat.le_of_ble_eq_true rfl, Nat.le_of_ble_eq_true rfl⟩ rfl (Nat.le_of_ble_eq_true rfl) dX11_braid_35 ?_
      rintro r_4 M_5 h_r_4 - ⟨rfl, hf⟩
      exact g_reti hC h_r_4 hM ⟨rfl, hf⟩ dX11_braid_38
    · replace hf := hf.2 c_6
      refine g_iconst hC dX11_braid_24 ?_
      exact g_reti hC (by unfold inR; omega) hM ⟨rfl, hf⟩ dX11_braid_25
set_option maxHeartbeats 4000000 in
set_option maxRecDepth 100000 in
theorem c_X11_streams (l : Launch) (B : Nat) (D : va_G) (K : Nat → ClassId) (v1 : Int) (v2 : Int) (i_v1 : inR v1) (i_v2 : inR v2) (M : Mem) (hM : MR M) (Q : Int → Mem → Prop) (hf : f_X11_streams v1 v2 M Q) : CtI l yX11_streams cX11_streams 3 2 51 B D K [.ref (B + 0), J v1, J v2] M Q := by
  refine ct_i (by decide) (Nat.le_of_ble_eq_true rfl) ?_
  intro p e s m args below meth c hC
  have hC : Cx p s m args meth c D K cX11_streams 3 RX11 (some .int) := hC
  unfold f_X11_streams at hf
  refine (show G p l e (rmF 2 51) s m args below meth c B D K 3 0 0 (ZI below args s B D K Q) M 0 [(0, .ref (B + 0)), (1, J v1), (2, J v2)] [] from ?_)
  refine g_iload_n hC 1 dX11_streams_0 rfl rfl ?_
  refine g_iconst hC dX11_streams_1 ?_
  refine g_icmp_ge hC 7 i_v1 (by unfold inR; omega) dX11_streams_2 rfl (fun c_11 => ?_) (fun c_11 => ?_)
  · replace hf := hf.1 c_11
    refine g_iload_n hC 2 dX11_streams_7 rfl rfl ?_
    by_cases c_3 : v2 = 0
    · replace hf := hf.1 c_3
      refine g_tabIn hC 0 36 i_v2 c_3 dX11_streams_8 (by decide) (by decide) rfl rfl ?_
      refine g_aload_n hC 0 dX11_streams_36 rfl rfl ?_
      refine g_getr hC okX11 sc0 12 (by decide) rfl wf_X11_84 dX11_streams_37 ?_
      refine g_aload_n hC 0 dX11_streams_40 rfl rfl ?_
      refine g_getr hC okX11 sc0 2 (by decide) rfl wf_X11_28 dX11_streams_41 ?_
      refine g_aload_n hC 0 dX11_streams_44 rfl rfl ?_
      refine g_getr hC okX11 sc0 6 (by decide) rfl wf_X11_42 dX11_streams_45 ?_
      refine g_getr hC okX1 (sh_X1 (Or.inl rfl)) 9 (by decide) rfl wf_X11_289 dX11_streams_48 ?_
      refine g_iload_n hC 1 dX11_streams_51 rfl rfl ?_
      refine g_callVI hC (sk := []) [.ref (B + 12), .ref (B + 30), J v1] (c_X7_howManyStreams l B D K 12 30 v1 (Or.inr (Or.inl rfl)) (isIA_of (sh_X1_9 (Or.inl rfl))) i_v1 M hM _ hf) yv_X7_howManyStreams wm_X11_292 okX7.1 sc68 rfl ⟨Nat.le_of_ble_eq_true rfl, Nat.le_of_ble_eq_true rfl, Nat.le_of_ble_eq_true rfl, Nat.le_of_ble_eq_true rfl⟩ rfl (Nat.le_of_ble_eq_true rfl) dX11_streams_52 ?_
      intro r_1 M_2 h_r_1 h_M_2 hf
      exact g_reti hC h_r_1 h_M_2 hf dX11_streams_55
    · replace hf := hf.2
      by_cases c_6 : v2 = 1
      · replace hf := hf.1 c_6
        refine g_tabIn hC 1 56 i_v2 c_6 dX11_streams_8 (by decide) (by decide) rfl rfl ?_
        refine g_aload_n hC 0 dX11_streams_56 rfl rfl ?_
        refine g_getr hC okX11 sc0 6 (by decide) rfl wf_X11_42 dX11_streams_57 ?_
        refine g_aload_n hC 0 dX11_streams_60 rfl rfl ?_
        refine g_getr hC okX11 sc0 2 (by decide) rfl wf_X11_28 dX11_streams_61 ?_
        refine g_iload_n hC 1 dX11_streams_64 rfl rfl ?_
        refine g_callVI hC (sk := []) [.ref (B + 12), J v1] (c_X1_howManyMet l B D K 20 12 v1 (Or.inl rfl) (Or.inr (Or.inl rfl)) i_v1 M hM _ hf) yv_X1_howManyMet wm_X11_296 okX1.1 (sh_X1 (Or.inl rfl)) rfl ⟨Nat.le_of_ble_eq_true rfl, Nat.le_of_ble_eq_true rfl, Nat.le_of_ble_eq_true rfl, Nat.le_of_ble_eq_true rfl⟩ rfl (Nat.le_of_ble_eq_true rfl) dX11_streams_65 ?_
        rintro r_4 M_5 h_r_4 - ⟨rfl, hf⟩
        exact g_reti hC h_r_4 hM hf dX11_streams_68
      · replace hf := hf.2
        by_cases c_9 : v2 = 2
        · replace hf := hf.1 c_9
          refine g_tabIn hC 2 69 i_v2 c_9 dX11_streams_8 (by decide) (by decide) rfl rfl ?_
          refine g_aload_n hC 0 dX11_streams_69 rfl rfl ?_
          refine g_getr hC okX11 sc0 6 (by decide) rfl wf_X11_42 dX11_streams_70 ?_
          refine g_aload_n hC 0 dX11_streams_73 rfl rfl ?_
          refine g_getr hC okX11 sc0 2 (by decide) rfl wf_X11_28 dX11_streams_74 ?_
          refine g_iload_n hC 1 dX11_streams_77 rfl rfl ?_
          refine g_callVI hC (sk := []) [.ref (B + 12), J v1] (c_X1_lengthOfMet l B D K 20 12 v1 (Or.inl rfl) (Or.inr (Or.inl rfl)) i_v1 M hM _ hf) yv_X1_lengthOfMet wm_X11_299 okX1.1 (sh_X1 (Or.inl rfl)) rfl ⟨Nat.le_of_ble_eq_true rfl, Nat.le_of_ble_eq_true rfl, Nat.le_of_ble_eq_true rfl, Nat.le_of_ble_eq_true rfl⟩ rfl (Nat.le_of_ble_eq_true rfl) dX11_streams_78 ?_
          rintro r_7 M_8 h_r_7 - ⟨rfl, hf⟩
          exact g_reti hC h_r_7 hM hf dX11_streams_81
        · replace hf := hf.2
          have c_10 : v2 < 0 ∨ 2 < v2 := by omega
          replace hf := hf c_10
          refine g_tabOut hC 82 i_v2 dX11_streams_8 c_10 rfl ?_
          refine g_iconst hC dX11_streams_82 ?_
          exact g_reti hC (by unfold inR; omega) hM hf dX11_streams_83
  · replace hf := hf.2 c_11
    refine g_iconst hC dX11_streams_5 ?_
    exact g_reti hC (by unfold inR; omega) hM hf dX11_streams_6
set_option maxHeartbeats 4000000 in
set_option maxRecDepth 100000 in
theorem c_X11_river (l : Launch) (B : Nat) (D : va_G) (K : Nat → ClassId) (v1 : Int) (v2 : Int) (i_v1 : inR v1) (i_v2 : inR v2) (M : Mem) (hM : MR M) (Q : Int → Prop) (hf : f_X11_river v1 v2 M Q) : CtI l yX11_river cX11_river 3 2 45 B D K [.ref (B + 0), J v1, J v2] M (fun r M1 => M = M1 ∧ Q r) := by
  refine ct_i (by decide) (Nat.le_of_ble_eq_true rfl) ?_
  intro p e s m args below meth c hC
  have hC : Cx p s m args meth c D K cX11_river 3 RX11 (some .int) := hC
  unfold f_X11_river at hf
  refine (show G p l e (rmF 2 45) s m args below meth c B D K 3 0 0 (ZI below args s B D K (fun r M1 => M = M1 ∧ Q r)) M 0 [(0, .ref (B + 0)), (1, J v1), (2, J v2)] [] from ?_)
  refine g_iload_n hC 1 dX11_river_0 rfl rfl ?_
  refine g_if_lt hC 12 i_v1 dX11_river_1 rfl (fun c_16 => ?_) (fun c_16 => ?_)
  · replace hf := hf.1 c_16
    refine g_iconst hC dX11_river_12 ?_
    exact g_reti hC (by unfold inR; omega) hM ⟨rfl, hf⟩ dX11_river_13
  · replace hf := hf.2 c_16
    refine g_iload_n hC 1 dX11_river_4 rfl rfl ?_
    refine g_aload_n hC 0 dX11_river_5 rfl rfl ?_
    refine g_geti hC okX11 sc0 5 (by decide) rfl wf_X11_137 dX11_river_6 ?_
    refine g_icmp_lt hC 14 i_v1 (hM _ _) dX11_river_9 rfl (fun c_15 => ?_) (fun c_15 => ?_)
    · replace hf := hf.1 c_15
      refine g_iload_n hC 2 dX11_river_14 rfl rfl ?_
      by_cases c_3 : v2 = 0
      · replace hf := hf.1 c_3
        refine g_tabIn hC 0 44 i_v2 c_3 dX11_river_15 (by decide) (by decide) rfl rfl ?_
        refine g_aload_n hC 0 dX11_river_44 rfl rfl ?_
        refine g_getr hC okX11 sc0 2 (by decide) rfl wf_X11_28 dX11_river_45 ?_
        refine g_iload_n hC 1 dX11_river_48 rfl rfl ?_
        refine g_callVI hC (sk := []) [J v1] (c_X5_howManyCalled l B D K 12 v1 (Or.inr (Or.inl rfl)) i_v1 M hM _ hf) yv_X5_howManyCalled wm_X11_302 okX5.1 (sh_X5 (Or.inr (Or.inl rfl))) rfl ⟨Nat.le_of_ble_eq_true rfl, Nat.le_of_ble_eq_true rfl, Nat.le_of_ble_eq_true rfl, Nat.le_of_ble_eq_true rfl⟩ rfl (Nat.le_of_ble_eq_true rfl) dX11_river_49 ?_
        rintro r_1 M_2 h_r_1 - ⟨rfl, hf⟩
        exact g_reti hC h_r_1 hM ⟨rfl, hf⟩ dX11_river_52
      · replace hf := hf.2
        by_cases c_6 : v2 = 1
        · replace hf := hf.1 c_6
          refine g_tabIn hC 1 53 i_v2 c_6 dX11_river_15 (by decide) (by decide) rfl rfl ?_
          refine g_aload_n hC 0 dX11_river_53 rfl rfl ?_
          refine g_getr hC okX11 sc0 2 (by decide) rfl wf_X11_28 dX11_river_54 ?_
          refine g_iload_n hC 1 dX11_river_57 rfl rfl ?_
          refine g_callVI hC (sk := []) [J v1] (c_X5_lengthCalled l B D K 12 v1 (Or.inr (Or.inl rfl)) i_v1 M hM _ hf) yv_X5_lengthCalled wm_X11_305 okX5.1 (sh_X5 (Or.inr (Or.inl rfl))) rfl ⟨Nat.le_of_ble_eq_true rfl, Nat.le_of_ble_eq_true rfl, Nat.le_of_ble_eq_true rfl, Nat.le_of_ble_eq_true rfl⟩ rfl (Nat.le_of_ble_eq_true rfl) dX11_river_58 ?_
          rintro r_4 M_5 h_r_4 - ⟨rfl, hf⟩
          exact g_reti hC h_r_4 hM ⟨rfl, hf⟩ dX11_river_61
        · replace hf := hf.2
          by_cases c_10 : v2 = 2
          · replace hf := hf.1 c_10
            refine g_tabIn hC 2 62 i_v2 c_10 dX11_river_15 (by decide) (by decide) rfl rfl ?_
            refine g_aload_n hC 0 dX11_river_62 rfl rfl ?_
            refine g_getr hC okX11 sc0 2 (by decide) rfl wf_X11_28 dX11_river_63 ?_
            refine g_iload_n hC 1 dX11_river_66 rfl rfl ?_
            refine g_callVZ hC (sk := []) [J v1] (c_X5_isTorn l B D K 12 v1 (Or.inr (Or.inl rfl)) i_v1 M hM _ hf) yv_X5_isTorn wm_X11_308 okX5.1 (sh_X5 (Or.inr (Or.inl rfl))) rfl ⟨Nat.le_of_ble_eq_true rfl, Nat.le_of_ble_eq_true rfl, Nat.le_of_ble_eq_true rfl, Nat.le_of_ble_eq_true rfl⟩ rfl (Nat.le_of_ble_eq_true rfl) dX11_river_67 ?_
            rintro r_7 M_8 h_r_7 - ⟨rfl, hf⟩
            refine g_if_eq hC 77 (zi_ h_r_7) dX11_river_70 rfl (fun c_9 => ?_) (fun c_9 => ?_)
            · replace hf := hf.1 c_9
              refine g_iconst hC dX11_river_77 ?_
              exact g_reti hC (by unfold inR; omega) hM ⟨rfl, hf⟩ dX11_river_78
            · replace hf := hf.2 c_9
              refine g_iconst hC dX11_river_73 ?_
              refine g_goto hC 78 dX11_river_74 rfl ?_
              exact g_reti hC (by unfold inR; omega) hM ⟨rfl, hf⟩ dX11_river_78
          · replace hf := hf.2
            by_cases c_13 : v2 = 3
            · replace hf := hf.1 c_13
              refine g_tabIn hC 3 79 i_v2 c_13 dX11_river_15 (by decide) (by decide) rfl rfl ?_
              refine g_aload_n hC 0 dX11_river_79 rfl rfl ?_
              refine g_getr hC okX11 sc0 2 (by decide) rfl wf_X11_28 dX11_river_80 ?_
              refine g_iload_n hC 1 dX11_river_83 rfl rfl ?_
              refine g_callVI hC (sk := []) [J v1] (c_X5_firstCalled l B D K 12 v1 (Or.inr (Or.inl rfl)) i_v1 M hM _ hf) yv_X5_firstCalled wm_X11_311 okX5.1 (sh_X5 (Or.inr (Or.inl rfl))) rfl ⟨Nat.le_of_ble_eq_true rfl, Nat.le_of_ble_eq_true rfl, Nat.le_of_ble_eq_true rfl, Nat.le_of_ble_eq_true rfl⟩ rfl (Nat.le_of_ble_eq_true rfl) dX11_river_84 ?_
              rintro r_11 M_12 h_r_11 - ⟨rfl, hf⟩
              exact g_reti hC h_r_11 hM ⟨rfl, hf⟩ dX11_river_87
            · replace hf := hf.2
              have c_14 : v2 < 0 ∨ 3 < v2 := by omega
              replace hf := hf c_14
              refine g_tabOut hC 88 i_v2 dX11_river_15 c_14 rfl ?_
              refine g_iconst hC dX11_river_88 ?_
              exact g_reti hC (by unfold inR; omega) hM ⟨rfl, hf⟩ dX11_river_89
    · replace hf := hf.2 c_15
      refine g_iconst hC dX11_river_12 ?_
      exact g_reti hC (by unfold inR; omega) hM ⟨rfl, hf⟩ dX11_river_13
set_option maxHeartbeats 4000000 in
set_option maxRecDepth 100000 in
theorem c_X11_canTurn (l : Launch) (B : Nat) (D : va_G) (K : Nat → ClassId) (v1 : Int) (i_v1 : inR v1) (M : Mem) (hM : MR M) (Q : Int → Prop) (hf : f_X11_canTurn v1 M Q) : CtI l yX11_canTurn cX11_canTurn 2 2 48 B D K [.ref (B + 0), J v1] M (fun r M1 => M = M1 ∧ Q r) := by
  refine ct_i (by decide) (Nat.le_of_ble_eq_true rfl) ?_
  intro p e s m args below meth c hC
  have hC : Cx p s m args meth c D K cX11_canTurn 2 RX11 (some .int) := hC
  unfold f_X11_canTurn at hf
  refine (show G p l e (rmF 2 48) s m args below meth c B D K 2 0 0 (ZI below args s B D K (fun r M1 => M = M1 ∧ Q r)) M 0 [(0, .ref (B + 0)), (1, J v1)] [] from ?_)
  refine g_aload_n hC 0 dX11_canTurn_0 rfl rfl ?_
  refine g_getr hC okX11 sc0 2 (by decide) rfl wf_X11_28 dX11_canTurn_1 ?_
  refine g_iload_n hC 1 dX11_canTurn_4 rfl rfl ?_
  refine g_callVZ hC (sk := []) [J v1] (c_X5_isReach l B D K 12 v1 (Or.inr (Or.inl rfl)) i_v1 M hM _ hf) yv_X5_isReach wm_X11_193 okX5.1 (sh_X5 (Or.inr (Or.inl rfl))) rfl ⟨Nat.le_of_ble_eq_true rfl, Nat.le_of_ble_eq_true rfl, Nat.le_of_ble_eq_true rfl, Nat.le_of_ble_eq_true rfl⟩ rfl (Nat.le_of_ble_eq_true rfl) dX11_canTurn_5 ?_
  rintro r_1 M_2 h_r_1 - ⟨rfl, hf⟩
  refine g_if_ne hC 13 (zi_ h_r_1) dX11_canTurn_8 rfl (fun c_6 => ?_) (fun c_6 => ?_)
  · replace hf := hf.1 c_6
    refine g_aload_n hC 0 dX11_canTurn_13 rfl rfl ?_
    refine g_getr hC okX11 sc0 2 (by decide) rfl wf_X11_28 dX11_canTurn_14 ?_
    refine g_iload_n hC 1 dX11_canTurn_17 rfl rfl ?_
    refine g_callVZ hC (sk := []) [J v1] (c_X5_mayReverse l B D K 12 v1 (Or.inr (Or.inl rfl)) i_v1 M hM _ hf) yv_X5_mayReverse wm_X11_314 okX5.1 (sh_X5 (Or.inr (Or.inl rfl))) rfl ⟨Nat.le_of_ble_eq_true rfl, Nat.le_of_ble_eq_true rfl, Nat.le_of_ble_eq_true rfl, Nat.le_of_ble_eq_true rfl⟩ rfl (Nat.le_of_ble_eq_true rfl) dX11_canTurn_18 ?_
    rintro r_3 M_4 h_r_3 - ⟨rfl, hf⟩
    refine g_if_eq hC 28 (zi_ h_r_3) dX11_canTurn_21 rfl (fun c_5 => ?_) (fun c_5 => ?_)
    · replace hf := hf.1 c_5
      refine g_iconst hC dX11_canTurn_28 ?_
      exact g_reti hC (by unfold inR; omega) hM ⟨rfl, hf⟩ dX11_canTurn_29
    · replace hf := hf.2 c_5
      refine g_iconst hC dX11_canTurn_24 ?_
      refine g_goto hC 29 dX11_canTurn_25 rfl ?_
      exact g_reti hC (by unfold inR; omega) hM ⟨rfl, hf⟩ dX11_canTurn_29
  · replace hf := hf.2 c_6
    refine g_iconst hC dX11_canTurn_11 ?_
    exact g_reti hC (by unfold inR; omega) hM ⟨rfl, hf⟩ dX11_canTurn_12
set_option maxHeartbeats 4000000 in
set_option maxRecDepth 100000 in
theorem c_X11_unlike (l : Launch) (B : Nat) (D : va_G) (K : Nat → ClassId) (a0 : Nat) (a1 : Nat) (v2 : Int) (h_a0 : isIA a0) (h_a1 : isIA a1) (i_v2 : inR v2) (M : Mem) (hM : MR M) (Q : Int → Prop) (hf : f_X11_unlike a0 a1 v2 M Q) : CtI l yX11_unlike cX11_unlike 5 0 0 B D K [.ref (B + a0), .ref (B + a1), J v2] M (fun r M1 => M = M1 ∧ Q r) := by
  refine ct_i (by decide) (Nat.le_of_ble_eq_true rfl) ?_
  intro p e s m args below meth c hC
  have hC : Cx p s m args meth c D K cX11_unlike 5 RX11 (some .int) := hC
  unfold f_X11_unlike at hf
  refine (show G p l e (rmF 0 0) s m args below meth c B D K 5 0 0 (ZI below args s B D K (fun r M1 => M = M1 ∧ Q r)) M 0 [(0, .ref (B + a0)), (1, .ref (B + a1)), (2, J v2)] [] from ?_)
  refine g_iconst hC dX11_unlike_0 ?_
  refine g_istore_n hC [(3, J 0), (0, .ref (B + a0)), (1, .ref (B + a1)), (2, J v2)] dX11_unlike_1 rfl (by decide) rfl ?_
  refine g_iconst hC dX11_unlike_2 ?_
  refine g_istore hC [(4, J 0), (3, J 0), (0, .ref (B + a0)), (1, .ref (B + a1)), (2, J v2)] dX11_unlike_3 (by decide) rfl ?_
  refine g_sub [(0, .ref (B + a0)), (1, .ref (B + a1)), (2, J v2), (3, J 0), (4, J 0)] [2, 3, 4, 1, 0] rfl ?_
  refine wl2_elim (fun (v3_1 : Int) (v4_2 : Int) => inR v3_1 → inR v4_2 → G p l e (rmF 0 0) s m args below meth c B D K 5 0 0 (ZI below args s B D K (fun r M1 => M = M1 ∧ Q r)) M 5 [(0, .ref (B + a0)), (1, .ref (B + a1)), (2, J v2), (3, J v3_1), (4, J v4_2)] []) ?_ 5000 0 0 hf (by unfold inR; omega) (by unfold inR; omega)
  intro rec5 ih5 v3_1 v4_2 hf h_v3_1 h_v4_2
  unfold X11_unlike_b5 at hf
  refine g_iload hC 4 dX11_unlike_5 rfl ?_
  refine g_iload_n hC 2 dX11_unlike_7 rfl rfl ?_
  refine g_icmp_ge hC 31 h_v4_2 i_v2 dX11_unlike_8 rfl (fun c_12 => ?_) (fun c_12 => ?_)
  · replace hf := hf.1 c_12
    refine g_iload_n hC 3 dX11_unlike_31 rfl rfl ?_
    exact g_reti hC h_v3_1 hM ⟨rfl, hf⟩ dX11_unlike_32
  · replace hf := hf.2 c_12
    refine g_aload_n hC 0 dX11_unlike_11 rfl rfl ?_
    refine g_iload hC 4 dX11_unlike_12 rfl ?_
    obtain ⟨q_3, hf⟩ := hf
    refine g_ialdk (v4_2.toNat) hC h_a0 q_3.1 q_3.2 rfl dX11_unlike_14 ?_
    refine g_aload_n hC 1 dX11_unlike_15 rfl rfl ?_
    refine g_iload hC 4 dX11_unlike_16 rfl ?_
    obtain ⟨q_4, hf⟩ := hf
    refine g_ialdk (v4_2.toNat) hC h_a1 q_4.1 q_4.2 rfl dX11_unlike_18 ?_
    refine g_icmp_eq hC 25 (hM _ _) (hM _ _) dX11_unlike_19 rfl (fun c_11 => ?_) (fun c_11 => ?_)
    · replace hf := hf.1 c_11
      obtain ⟨q_6, hf⟩ := hf
      obtain ⟨v4_5, e_v4_5⟩ : ∃ z : Int, z = v4_2 + 1 := ⟨_, rfl⟩
      replace hf := hf v4_5 e_v4_5
      have h_v4_5 : inR v4_5 := by rw [e_v4_5]; exact q_6
      refine g_iincv hC 4 e_v4_5 [(4, J v4_5), (0, .ref (B + a0)), (1, .ref (B + a1)), (2, J v2), (3, J v3_1)] dX11_unlike_25 rfl (by decide) rfl ?_
      refine g_goto hC 5 dX11_unlike_28 rfl ?_
      refine g_sub [(0, .ref (B + a0)), (1, .ref (B + a1)), (2, J v2), (3, J v3_1), (4, J v4_5)] [1, 2, 3, 4, 0] rfl ?_
      exact ih5 v3_1 v4_5 hf h_v3_1 h_v4_5
    · replace hf := hf.2 c_11
      obtain ⟨q_8, hf⟩ := hf
      obtain ⟨v3_7, e_v3_7⟩ : ∃ z : Int, z = v3_1 + 1 := ⟨_, rfl⟩
      replace hf := hf v3_7 e_v3_7
      have h_v3_7 : inR v3_7 := by rw [e_v3_7]; exact q_8
      refine g_iincv hC 3 e_v3_7 [(3, J v3_7), (0, .ref (B + a0)), (1, .ref (B + a1)), (2, J v2), (4, J v4_2)] dX11_unlike_22 rfl (by decide) rfl ?_
      obtain ⟨q_10, hf⟩ := hf
      obtain ⟨v4_9, e_v4_9⟩ : ∃ z : Int, z = v4_2 + 1 := ⟨_, rfl⟩
      replace hf := hf v4_9 e_v4_9
      have h_v4_9 : inR v4_9 := by rw [e_v4_9]; exact q_10
      refine g_iincv hC 4 e_v4_9 [(4, J v4_9), (3, J v3_7), (0, .ref (B + a0)), (1, .ref (B + a1)), (2, J v2)] dX11_unlike_25 rfl (by decide) rfl ?_
      refine g_goto hC 5 dX11_unlike_28 rfl ?_
      refine g_sub [(0, .ref (B + a0)), (1, .ref (B + a1)), (2, J v2), (3, J v3_7), (4, J v4_9)] [2, 3, 4, 1, 0] rfl ?_
      exact ih5 v3_7 v4_9 hf h_v3_7 h_v4_9
set_option maxHeartbeats 4000000 in
set_option maxRecDepth 100000 in
theorem c_X11_would (l : Launch) (B : Nat) (D : va_G) (K : Nat → ClassId) (v1 : Int) (v2 : Int) (i_v1 : inR v1) (i_v2 : inR v2) (M : Mem) (hM : MR M) (Q : Int → Mem → Prop) (hf : f_X11_would v1 v2 M Q) : CtI l yX11_would cX11_would 3 4 109 B D K [.ref (B + 0), J v1, J v2] M Q := by
  refine ct_i (by decide) (Nat.le_of_ble_eq_true rfl) ?_
  intro p e s m args below meth c hC
  have hC : Cx p s m args meth c D K cX11_would 3 RX11 (some .int) := hC
  unfold f_X11_would at hf
  refine (show G p l e (rmF 4 109) s m args below meth c B D K 3 0 0 (ZI below args s B D K Q) M 0 [(0, .ref (B + 0)), (1, J v1), (2, J v2)] [] from ?_)
  refine g_iload_n hC 2 dX11_would_0 rfl rfl ?_
  refine g_if_lt hC 31 i_v2 dX11_would_1 rfl (fun c_19 => ?_) (fun c_19 => ?_)
  · replace hf := hf.1 c_19
    refine g_iconst hC dX11_would_31 ?_
    exact g_reti hC (by unfold inR; omega) hM hf dX11_would_32
  · replace hf := hf.2 c_19
    refine g_iload_n hC 2 dX11_would_4 rfl rfl ?_
    refine g_iconst hC dX11_would_5 ?_
    refine g_icmp_gt hC 31 i_v2 (by unfold inR; omega) dX11_would_6 rfl (fun c_18 => ?_) (fun c_18 => ?_)
    · replace hf := hf.1 c_18
      refine g_iconst hC dX11_would_31 ?_
      exact g_reti hC (by unfold inR; omega) hM hf dX11_would_32
    · replace hf := hf.2 c_18
      refine g_aload_n hC 0 dX11_would_9 rfl rfl ?_
      refine g_getr hC okX11 sc0 2 (by decide) rfl wf_X11_28 dX11_would_10 ?_
      refine g_iload_n hC 1 dX11_would_13 rfl rfl ?_
      refine g_callVZ hC (sk := []) [J v1] (c_X5_isReach l B D K 12 v1 (Or.inr (Or.inl rfl)) i_v1 M hM _ hf) yv_X5_isReach wm_X11_193 okX5.1 (sh_X5 (Or.inr (Or.inl rfl))) rfl ⟨Nat.le_of_ble_eq_true rfl, Nat.le_of_ble_eq_true rfl, Nat.le_of_ble_eq_true rfl, Nat.le_of_ble_eq_true rfl⟩ rfl (Nat.le_of_ble_eq_true rfl) dX11_would_14 ?_
      rintro r_1 M_2 h_r_1 - ⟨rfl, hf⟩
      refine g_if_eq hC 31 (zi_ h_r_1) dX11_would_17 rfl (fun c_17 => ?_) (fun c_17 => ?_)
      · replace hf := hf.1 c_17
        refine g_iconst hC dX11_would_31 ?_
        exact g_reti hC (by unfold inR; omega) hM hf dX11_would_32
      · replace hf := hf.2 c_17
        refine g_aload_n hC 0 dX11_would_20 rfl rfl ?_
        refine g_getr hC okX11 sc0 2 (by decide) rfl wf_X11_28 dX11_would_21 ?_
        refine g_iload_n hC 1 dX11_would_24 rfl rfl ?_
        refine g_callVZ hC (sk := []) [J v1] (c_X5_mayReverse l B D K 12 v1 (Or.inr (Or.inl rfl)) i_v1 M hM _ hf) yv_X5_mayReverse wm_X11_314 okX5.1 (sh_X5 (Or.inr (Or.inl rfl))) rfl ⟨Nat.le_of_ble_eq_true rfl, Nat.le_of_ble_eq_true rfl, Nat.le_of_ble_eq_true rfl, Nat.le_of_ble_eq_true rfl⟩ rfl (Nat.le_of_ble_eq_true rfl) dX11_would_25 ?_
        rintro r_3 M_4 h_r_3 - ⟨rfl, hf⟩
        refine g_if_ne hC 33 (zi_ h_r_3) dX11_would_28 rfl (fun c_16 => ?_) (fun c_16 => ?_)
        · replace hf := hf.1 c_16
          refine g_aload_n hC 0 dX11_would_33 rfl rfl ?_
          refine g_getr hC okX11 sc0 13 (by decide) rfl wf_X11_88 dX11_would_34 ?_
          refine g_aload_n hC 0 dX11_would_37 rfl rfl ?_
          refine g_getr hC okX11 sc0 2 (by decide) rfl wf_X11_28 dX11_would_38 ?_
          refine g_callVV hC (sk := []) [.ref (B + 12)] (c_X5_copyFrom l B D K 72 12 (Or.inr (Or.inr rfl)) (Or.inr (Or.inl rfl)) M hM _ hf) yv_X5_copyFrom wm_X11_122 okX5.1 (sh_X5 (Or.inr (Or.inr rfl))) rfl ⟨Nat.le_of_ble_eq_true rfl, Nat.le_of_ble_eq_true rfl, Nat.le_of_ble_eq_true rfl, Nat.le_of_ble_eq_true rfl⟩ rfl (Nat.le_of_ble_eq_true rfl) dX11_would_41 ?_
          intro M_5 h_M_5 hf
          refine g_aload_n hC 0 dX11_would_44 rfl rfl ?_
          refine g_getr hC okX11 sc0 13 (by decide) rfl wf_X11_88 dX11_would_45 ?_
          refine g_iload_n hC 1 dX11_would_48 rfl rfl ?_
          refine g_callVV hC (sk := []) [J v1] (c_X5_reverse l B D K 72 v1 (Or.inr (Or.inr rfl)) i_v1 M_5 h_M_5 _ hf) yv_X5_reverse wm_X11_317 okX5.1 (sh_X5 (Or.inr (Or.inr rfl))) rfl ⟨Nat.le_of_ble_eq_true rfl, Nat.le_of_ble_eq_true rfl, Nat.le_of_ble_eq_true rfl, Nat.le_of_ble_eq_true rfl⟩ rfl (Nat.le_of_ble_eq_true rfl) dX11_would_49 ?_
          intro M_6 h_M_6 hf
          refine g_aload_n hC 0 dX11_would_52 rfl rfl ?_
          refine g_getr hC okX11 sc0 14 (by decide) rfl wf_X11_91 dX11_would_53 ?_
          refine g_aload_n hC 0 dX11_would_56 rfl rfl ?_
          refine g_getr hC okX11 sc0 13 (by decide) rfl wf_X11_88 dX11_would_57 ?_
          refine g_callVV hC (sk := []) [.ref (B + 72)] (c_X1_figure l B D K 78 72 (Or.inr rfl) (Or.inr (Or.inr rfl)) M_6 h_M_6 _ hf) yv_X1_figure wm_X11_320 okX1.1 (sh_X1 (Or.inr rfl)) rfl ⟨Nat.le_of_ble_eq_true rfl, Nat.le_of_ble_eq_true rfl, Nat.le_of_ble_eq_true rfl, Nat.le_of_ble_eq_true rfl⟩ rfl (Nat.le_of_ble_eq_true rfl) dX11_would_60 ?_
          intro M_7 h_M_7 hf
          refine g_iload_n hC 2 dX11_would_63 rfl rfl ?_
          by_cases c_10 : v2 = 0
          · replace hf := hf.1 c_10
            refine g_look (off := 28) hC 92 i_v2 dX11_would_64 rfl (by first | (rw [c_10]; done) | (rw [c_10]; rfl)) rfl ?_
            refine g_aload_n hC 0 dX11_would_92 rfl rfl ?_
            refine g_getr hC okX11 sc0 14 (by decide) rfl wf_X11_91 dX11_would_93 ?_
            refine g_aload_n hC 0 dX11_would_96 rfl rfl ?_
            refine g_getr hC okX11 sc0 13 (by decide) rfl wf_X11_88 dX11_would_97 ?_
            refine g_callVI hC (sk := []) [.ref (B + 72)] (c_X1_greatestMet l B D K 78 72 (Or.inr rfl) (Or.inr (Or.inr rfl)) M_7 h_M_7 _ hf) yv_X1_greatestMet wm_X11_186 okX1.1 (sh_X1 (Or.inr rfl)) rfl ⟨Nat.le_of_ble_eq_true rfl, Nat.le_of_ble_eq_true rfl, Nat.le_of_ble_eq_true rfl, Nat.le_of_ble_eq_true rfl⟩ rfl (Nat.le_of_ble_eq_true rfl) dX11_would_100 ?_
            rintro r_8 M_9 h_r_8 - ⟨rfl, hf⟩
            exact g_reti hC h_r_8 h_M_7 hf dX11_would_103
          · replace hf := hf.2
            by_cases c_13 : v2 = 1
            · replace hf := hf.1 c_13
              refine g_look (off := 40) hC 104 i_v2 dX11_would_64 rfl (by first | (rw [c_13]; done) | (rw [c_13]; rfl)) rfl ?_
              refine g_aload_n hC 0 dX11_would_104 rfl rfl ?_
              refine g_getr hC okX11 sc0 14 (by decide) rfl wf_X11_91 dX11_would_105 ?_
              refine g_geti hC okX1 (sh_X1 (Or.inr rfl)) 12 (by decide) rfl wf_X11_167 dX11_would_108 ?_
              refine g_callSI hC (sk := []) [J (M_7 78 12)] (c_J6_bitCount_0f7a4 l B D K (M_7 78 12) (h_M_7 _ _) M_7 h_M_7 _ hf) yv_J6_bitCount_0f7a4 wm_X11_162 rfl ⟨Nat.le_of_ble_eq_true rfl, Nat.le_of_ble_eq_true rfl, Nat.le_of_ble_eq_true rfl, Nat.le_of_ble_eq_true rfl⟩ rfl (Nat.le_of_ble_eq_true rfl) dX11_would_111 ?_
              rintro r_11 M_12 h_r_11 - ⟨rfl, hf⟩
              exact g_reti hC h_r_11 h_M_7 hf dX11_would_114
            · replace hf := hf.2
              replace hf := hf ⟨c_10, c_13⟩
              refine g_look (off := 51) hC 115 i_v2 dX11_would_64 rfl (by simp [Op.lookupswitch.offset, c_10, c_13, Ne.symm c_10, Ne.symm c_13]) rfl ?_
              refine g_aload_n hC 0 dX11_would_115 rfl rfl ?_
              refine g_getr hC okX11 sc0 6 (by decide) rfl wf_X11_42 dX11_would_116 ?_
              refine g_getr hC okX1 (sh_X1 (Or.inl rfl)) 9 (by decide) rfl wf_X11_289 dX11_would_119 ?_
              refine g_aload_n hC 0 dX11_would_122 rfl rfl ?_
              refine g_getr hC okX11 sc0 14 (by decide) rfl wf_X11_91 dX11_would_123 ?_
              refine g_getr hC okX1 (sh_X1 (Or.inr rfl)) 9 (by decide) rfl wf_X11_289 dX11_would_126 ?_
              refine g_aload_n hC 0 dX11_would_129 rfl rfl ?_
              refine g_getr hC okX11 sc0 2 (by decide) rfl wf_X11_28 dX11_would_130 ?_
              refine g_geti hC okX5 (sh_X5 (Or.inr (Or.inl rfl))) 1 (by decide) rfl wf_X11_147 dX11_would_133 ?_
              refine g_callSI hC (sk := []) [.ref (B + 30), .ref (B + 88), J (M_7 12 1)] (c_X11_unlike l B D K 30 88 (M_7 12 1) (isIA_of (sh_X1_9 (Or.inl rfl))) (isIA_of (sh_X1_9 (Or.inr rfl))) (h_M_7 _ _) M_7 h_M_7 _ hf) yv_X11_unlike wm_X11_322 rfl ⟨Nat.le_of_ble_eq_true rfl, Nat.le_of_ble_eq_true rfl, Nat.le_of_ble_eq_true rfl, Nat.le_of_ble_eq_true rfl⟩ rfl (Nat.le_of_ble_eq_true rfl) dX11_would_136 ?_
              rintro r_14 M_15 h_r_14 - ⟨rfl, hf⟩
              exact g_reti hC h_r_14 h_M_7 hf dX11_would_139
        · replace hf := hf.2 c_16
          refine g_iconst hC dX11_would_31 ?_
          exact g_reti hC (by unfold inR; omega) hM hf dX11_would_32
set_option maxHeartbeats 4000000 in
set_option maxRecDepth 100000 in
theorem c_X11_lossOf (l : Launch) (B : Nat) (D : va_G) (K : Nat → ClassId) (v1 : Int) (i_v1 : inR v1) (M : Mem) (hM : MR M) (Q : Int → Mem → Prop) (hf : f_X11_lossOf v1 M Q) : CtI l yX11_lossOf cX11_lossOf 2 2 48 B D K [.ref (B + 0), J v1] M Q := by
  refine ct_i (by decide) (Nat.le_of_ble_eq_true rfl) ?_
  intro p e s m args below meth c hC
  have hC : Cx p s m args meth c D K cX11_lossOf 2 RX11 (some .int) := hC
  unfold f_X11_lossOf at hf
  refine (show G p l e (rmF 2 48) s m args below meth c B D K 2 0 0 (ZI below args s B D K Q) M 0 [(0, .ref (B + 0)), (1, J v1)] [] from ?_)
  refine g_aload_n hC 0 dX11_lossOf_0 rfl rfl ?_
  refine g_getr hC okX11 sc0 14 (by decide) rfl wf_X11_91 dX11_lossOf_1 ?_
  refine g_getr hC okX1 (sh_X1 (Or.inr rfl)) 10 (by decide) rfl wf_X11_177 dX11_lossOf_4 ?_
  refine g_aload_n hC 0 dX11_lossOf_7 rfl rfl ?_
  refine g_getr hC okX11 sc0 2 (by decide) rfl wf_X11_28 dX11_lossOf_8 ?_
  refine g_aload_n hC 0 dX11_lossOf_11 rfl rfl ?_
  refine g_getr hC okX11 sc0 6 (by decide) rfl wf_X11_42 dX11_lossOf_12 ?_
  refine g_getr hC okX1 (sh_X1 (Or.inl rfl)) 1 (by decide) rfl wf_X11_424 dX11_lossOf_15 ?_
  refine g_iload_n hC 1 dX11_lossOf_18 rfl rfl ?_
  refine g_callVV hC (sk := []) [.ref (B + 12), .ref (B + 22), J v1] (c_X2_spread l B D K 89 12 22 v1 (fl_X1_10 (Or.inr rfl)) (Or.inr (Or.inl rfl)) (isIA_of (sh_X1_1 (Or.inl rfl))) i_v1 M hM _ hf) yv_X2_spread wm_X11_427 okX2.1 (sh_X2 (fl_X1_10 (Or.inr rfl))) rfl ⟨Nat.le_of_ble_eq_true rfl, Nat.le_of_ble_eq_true rfl, Nat.le_of_ble_eq_true rfl, Nat.le_of_ble_eq_true rfl⟩ rfl (Nat.le_of_ble_eq_true rfl) dX11_lossOf_19 ?_
  intro M_1 h_M_1 hf
  refine g_aload_n hC 0 dX11_lossOf_22 rfl rfl ?_
  refine g_getr hC okX11 sc0 6 (by decide) rfl wf_X11_42 dX11_lossOf_23 ?_
  refine g_getr hC okX1 (sh_X1 (Or.inl rfl)) 10 (by decide) rfl wf_X11_177 dX11_lossOf_26 ?_
  refine g_aload_n hC 0 dX11_lossOf_29 rfl rfl ?_
  refine g_getr hC okX11 sc0 6 (by decide) rfl wf_X11_42 dX11_lossOf_30 ?_
  refine g_geti hC okX1 (sh_X1 (Or.inl rfl)) 12 (by decide) rfl wf_X11_167 dX11_lossOf_33 ?_
  refine g_callVI hC (sk := []) [J (M_1 20 12)] (c_X2_sumAt l B D K 31 (M_1 20 12) (fl_X1_10 (Or.inl rfl)) (h_M_1 _ _) M_1 h_M_1 _ hf) yv_X2_sumAt wm_X11_181 okX2.1 (sh_X2 (fl_X1_10 (Or.inl rfl))) rfl ⟨Nat.le_of_ble_eq_true rfl, Nat.le_of_ble_eq_true rfl, Nat.le_of_ble_eq_true rfl, Nat.le_of_ble_eq_true rfl⟩ rfl (Nat.le_of_ble_eq_true rfl) dX11_lossOf_36 ?_
  rintro r_2 M_3 h_r_2 - ⟨rfl, hf⟩
  refine g_aload_n hC 0 dX11_lossOf_39 rfl rfl ?_
  refine g_getr hC okX11 sc0 14 (by decide) rfl wf_X11_91 dX11_lossOf_40 ?_
  refine g_getr hC okX1 (sh_X1 (Or.inr rfl)) 10 (by decide) rfl wf_X11_177 dX11_lossOf_43 ?_
  refine g_aload_n hC 0 dX11_lossOf_46 rfl rfl ?_
  refine g_getr hC okX11 sc0 6 (by decide) rfl wf_X11_42 dX11_lossOf_47 ?_
  refine g_geti hC okX1 (sh_X1 (Or.inl rfl)) 12 (by decide) rfl wf_X11_167 dX11_lossOf_50 ?_
  refine g_callVI hC (sk := [J r_2]) [J (M_1 20 12)] (c_X2_sumAt l B D K 89 (M_1 20 12) (fl_X1_10 (Or.inr rfl)) (h_M_1 _ _) M_1 h_M_1 _ hf) yv_X2_sumAt wm_X11_181 okX2.1 (sh_X2 (fl_X1_10 (Or.inr rfl))) rfl ⟨Nat.le_of_ble_eq_true rfl, Nat.le_of_ble_eq_true rfl, Nat.le_of_ble_eq_true rfl, Nat.le_of_ble_eq_true rfl⟩ rfl (Nat.le_of_ble_eq_true rfl) dX11_lossOf_53 ?_
  rintro r_4 M_5 h_r_4 - ⟨rfl, hf⟩
  refine g_isub hC dX11_lossOf_56 ?_
  refine g_nz ?_
  exact g_reti hC (nz_in _) h_M_1 hf dX11_lossOf_57
set_option maxHeartbeats 4000000 in
set_option maxRecDepth 100000 in
theorem c_X11_loss (l : Launch) (B : Nat) (D : va_G) (K : Nat → ClassId) (v1 : Int) (i_v1 : inR v1) (M : Mem) (hM : MR M) (Q : Int → Mem → Prop) (hf : f_X11_loss v1 M Q) : CtI l yX11_loss cX11_loss 2 3 69 B D K [.ref (B + 0), J v1] M Q := by
  refine ct_i (by decide) (Nat.le_of_ble_eq_true rfl) ?_
  intro p e s m args below meth c hC
  have hC : Cx p s m args meth c D K cX11_loss 2 RX11 (some .int) := hC
  unfold f_X11_loss at hf
  refine (show G p l e (rmF 3 69) s m args below meth c B D K 2 0 0 (ZI below args s B D K Q) M 0 [(0, .ref (B + 0)), (1, J v1)] [] from ?_)
  refine g_aload_n hC 0 dX11_loss_0 rfl rfl ?_
  refine g_getr hC okX11 sc0 2 (by decide) rfl wf_X11_28 dX11_loss_1 ?_
  refine g_iload_n hC 1 dX11_loss_4 rfl rfl ?_
  refine g_callVZ hC (sk := []) [J v1] (c_X5_isReach l B D K 12 v1 (Or.inr (Or.inl rfl)) i_v1 M hM _ hf) yv_X5_isReach wm_X11_193 okX5.1 (sh_X5 (Or.inr (Or.inl rfl))) rfl ⟨Nat.le_of_ble_eq_true rfl, Nat.le_of_ble_eq_true rfl, Nat.le_of_ble_eq_true rfl, Nat.le_of_ble_eq_true rfl⟩ rfl (Nat.le_of_ble_eq_true rfl) dX11_loss_5 ?_
  rintro r_1 M_2 h_r_1 - ⟨rfl, hf⟩
  refine g_if_eq hC 19 (zi_ h_r_1) dX11_loss_8 rfl (fun c_5 => ?_) (fun c_5 => ?_)
  · replace hf := hf.1 c_5
    refine g_iconst hC dX11_loss_19 ?_
    exact g_reti hC (by unfold inR; omega) hM hf dX11_loss_20
  · replace hf := hf.2 c_5
    refine g_aload_n hC 0 dX11_loss_11 rfl rfl ?_
    refine g_iload_n hC 1 dX11_loss_12 rfl rfl ?_
    refine g_callVI hC (sk := []) [J v1] (c_X11_lossOf l B D K v1 i_v1 M hM _ hf) yv_X11_lossOf wm_X11_326 okX11.1 sc0 rfl ⟨Nat.le_of_ble_eq_true rfl, Nat.le_of_ble_eq_true rfl, Nat.le_of_ble_eq_true rfl, Nat.le_of_ble_eq_true rfl⟩ rfl (Nat.le_of_ble_eq_true rfl) dX11_loss_13 ?_
    intro r_3 M_4 h_r_3 h_M_4 hf
    refine g_goto hC 20 dX11_loss_16 rfl ?_
    exact g_reti hC h_r_3 h_M_4 hf dX11_loss_20
set_option maxHeartbeats 4000000 in
set_option maxRecDepth 100000 in
theorem c_X11_starves (l : Launch) (B : Nat) (D : va_G) (K : Nat → ClassId) (v1 : Int) (i_v1 : inR v1) (M : Mem) (hM : MR M) (Q : Int → Mem → Prop) (hf : f_X11_starves v1 M Q) : CtI l yX11_starves cX11_starves 6 3 69 B D K [.ref (B + 0), J v1] M Q := by
  refine ct_i (by decide) (Nat.le_of_ble_eq_true rfl) ?_
  intro p e s m args below meth c hC
  have hC : Cx p s m args meth c D K cX11_starves 6 RX11 (some .int) := hC
  unfold f_X11_starves at hf
  refine (show G p l e (rmF 3 69) s m args below meth c B D K 6 0 0 (ZI below args s B D K Q) M 0 [(0, .ref (B + 0)), (1, J v1)] [] from ?_)
  refine g_iload_n hC 1 dX11_starves_0 rfl rfl ?_
  refine g_if_lt hC 9 i_v1 dX11_starves_1 rfl (fun c_18 => ?_) (fun c_18 => ?_)
  · replace hf := hf.1 c_18
    refine g_iconst hC dX11_starves_9 ?_
    exact g_reti hC (by unfold inR; omega) hM hf dX11_starves_10
  · replace hf := hf.2 c_18
    refine g_iload_n hC 1 dX11_starves_4 rfl rfl ?_
    refine g_iconst hC dX11_starves_5 ?_
    refine g_icmp_le hC 11 i_v1 (by unfold inR; omega) dX11_starves_6 rfl (fun c_17 => ?_) (fun c_17 => ?_)
    · replace hf := hf.1 c_17
      refine g_iconst hC dX11_starves_11 ?_
      refine g_istore_n hC [(2, J (-1)), (0, .ref (B + 0)), (1, J v1)] dX11_starves_12 rfl (by decide) rfl ?_
      refine g_iconst hC dX11_starves_13 ?_
      refine g_istore_n hC [(3, J (-1)), (2, J (-1)), (0, .ref (B + 0)), (1, J v1)] dX11_starves_14 rfl (by decide) rfl ?_
      refine g_iconst hC dX11_starves_15 ?_
      refine g_istore hC [(4, J 0), (3, J (-1)), (2, J (-1)), (0, .ref (B + 0)), (1, J v1)] dX11_starves_16 (by decide) rfl ?_
      refine jn_elim (fun (k : Int → Int → Mem → Prop) => ∀ (v2_1 : Int) (v3_2 : Int) (M_3 : Mem), k v2_1 v3_2 M_3 → (inR v2_1) → (inR v3_2) → (MR M_3) → G p l e (rmF 3 69) s m args below meth c B D K 6 0 0 (ZI below args s B D K Q) M_3 56 [(1, J v1), (2, J v2_1), (3, J v3_2)] []) hf ?_ ?_
      · intro v2_1 v3_2 M_3 hf h_v2_1 h_v3_2 h_M_3
        refine g_iload_n hC 0 dX11_starves_56 rfl rfl ?_
        refine g_if_ne hC 64 i_v1 dX11_starves_57 rfl (fun c_4 => ?_) (fun c_4 => ?_)
        · replace hf := hf.1 c_4
          refine g_iload_n hC 2 dX11_starves_64 rfl rfl ?_
          exact g_reti hC h_v3_2 h_M_3 hf dX11_starves_65
        · replace hf := hf.2 c_4
          refine g_iload_n hC 1 dX11_starves_60 rfl rfl ?_
          refine g_goto hC 65 dX11_starves_61 rfl ?_
          exact g_reti hC h_v2_1 h_M_3 hf dX11_starves_65
      · intro J56 hJ56 hf
        refine g_sub [(0, .ref (B + 0)), (1, J v1), (2, J (-1)), (3, J (-1)), (4, J 0)] [3, 4, 2, 1, 0] rfl ?_
        refine wl4_elim (fun (v2_5 : Int) (v3_6 : Int) (v4_7 : Int) (M_8 : Mem) => inR v2_5 → inR v3_6 → inR v4_7 → MR M_8 → G p l e (rmF 3 69) s m args below meth c B D K 6 0 0 (ZI below args s B D K Q) M_8 18 [(0, .ref (B + 0)), (1, J v1), (2, J v2_5), (3, J v3_6), (4, J v4_7)] []) ?_ 5000 (-1) (-1) 0 M hf (by unfold inR; omega) (by unfold inR; omega) (by unfold inR; omega) hM
        intro rec18 ih18 v2_5 v3_6 v4_7 M_8 hf h_v2_5 h_v3_6 h_v4_7 h_M_8
        unfold X11_starves_b18 at hf
        refine g_iload hC 4 dX11_starves_18 rfl ?_
        refine g_aload_n hC 0 dX11_starves_20 rfl rfl ?_
        refine g_getr hC okX11 sc0 2 (by decide) rfl wf_X11_28 dX11_starves_21 ?_
        refine g_geti hC okX5 (sh_X5 (Or.inr (Or.inl rfl))) 1 (by decide) rfl wf_X11_147 dX11_starves_24 ?_
        refine g_icmp_ge hC 56 h_v4_7 (h_M_8 _ _) dX11_starves_27 rfl (fun c_16 => ?_) (fun c_16 => ?_)
        · replace hf := hf.1 c_16
          refine g_sub [(1, J v1), (2, J v2_5), (3, J v3_6)] [1, 2, 3] rfl ?_
          exact hJ56 v2_5 v3_6 M_8 hf h_v2_5 h_v3_6 h_M_8
        · replace hf := hf.2 c_16
          refine g_aload_n hC 0 dX11_starves_30 rfl rfl ?_
          refine g_iload hC 4 dX11_starves_31 rfl ?_
          refine g_callVI hC (sk := []) [J v4_7] (c_X11_lossOf l B D K v4_7 h_v4_7 M_8 h_M_8 _ hf) yv_X11_lossOf wm_X11_326 okX11.1 sc0 rfl ⟨Nat.le_of_ble_eq_true rfl, Nat.le_of_ble_eq_true rfl, Nat.le_of_ble_eq_true rfl, Nat.le_of_ble_eq_true rfl⟩ rfl (Nat.le_of_ble_eq_true rfl) dX11_starves_33 ?_
          intro r_9 M_10 h_r_9 h_M_10 hf
          refine g_istore hC [(5, J r_9), (0, .ref (B + 0)), (1, J v1), (2, J v2_5), (3, J v3_6), (4, J v4_7)] dX11_starves_36 (by decide) rfl ?_
          refine g_iload hC 0 dX11_starves_38 rfl ?_
          refine g_iload_n hC 4 dX11_starves_40 rfl rfl ?_
          refine g_icmp_le hC 50 h_r_9 h_v3_6 dX11_starves_41 rfl (fun c_15 => ?_) (fun c_15 => ?_)
          · replace hf := hf.1 c_15
            obtain ⟨q_12, hf⟩ := hf
            obtain ⟨v4_11, e_v4_11⟩ : ∃ z : Int, z = v4_7 + 1 := ⟨_, rfl⟩
            replace hf := hf v4_11 e_v4_11
            have h_v4_11 : inR v4_11 := by rw [e_v4_11]; exact q_12
            refine g_iincv hC 5 e_v4_11 [(4, J v4_11), (5, J r_9), (0, .ref (B + 0)), (1, J v1), (2, J v2_5), (3, J v3_6)] dX11_starves_50 rfl (by decide) rfl ?_
            refine g_goto hC 18 dX11_starves_53 rfl ?_
            refine g_sub [(0, .ref (B + 0)), (1, J v1), (2, J v2_5), (3, J v3_6), (4, J v4_11)] [2, 3, 4, 5, 0] rfl ?_
            exact ih18 v2_5 v3_6 v4_11 M_10 hf h_v2_5 h_v3_6 h_v4_11 h_M_10
          · replace hf := hf.2 c_15
            refine g_iload hC 0 dX11_starves_44 rfl ?_
            refine g_istore_n hC [(3, J r_9), (5, J r_9), (0, .ref (B + 0)), (1, J v1), (2, J v2_5), (4, J v4_7)] dX11_starves_46 rfl (by decide) rfl ?_
            refine g_iload hC 5 dX11_starves_47 rfl ?_
            refine g_istore_n hC [(2, J v4_7), (3, J r_9), (5, J r_9), (0, .ref (B + 0)), (1, J v1), (4, J v4_7)] dX11_starves_49 rfl (by decide) rfl ?_
            obtain ⟨q_14, hf⟩ := hf
            obtain ⟨v4_13, e_v4_13⟩ : ∃ z : Int, z = v4_7 + 1 := ⟨_, rfl⟩
            replace hf := hf v4_13 e_v4_13
            have h_v4_13 : inR v4_13 := by rw [e_v4_13]; exact q_14
            refine g_iincv hC 5 e_v4_13 [(4, J v4_13), (2, J v4_7), (3, J r_9), (5, J r_9), (0, .ref (B + 0)), (1, J v1)] dX11_starves_50 rfl (by decide) rfl ?_
            refine g_goto hC 18 dX11_starves_53 rfl ?_
            refine g_sub [(0, .ref (B + 0)), (1, J v1), (2, J v4_7), (3, J r_9), (4, J v4_13)] [4, 5, 1, 2, 0] rfl ?_
            exact ih18 v4_7 r_9 v4_13 M_10 hf h_v4_7 h_r_9 h_v4_13 h_M_10
    · replace hf := hf.2 c_17
      refine g_iconst hC dX11_starves_9 ?_
      exact g_reti hC (by unfold inR; omega) hM hf dX11_starves_10
set_option maxHeartbeats 4000000 in
set_option maxRecDepth 100000 in
theorem c_X11_fewest (l : Launch) (B : Nat) (D : va_G) (K : Nat → ClassId) (v1 : Int) (i_v1 : inR v1) (M : Mem) (hM : MR M) (Q : Int → Mem → Prop) (hf : f_X11_fewest v1 M Q) : CtI l yX11_fewest cX11_fewest 2 2 54 B D K [.ref (B + 0), J v1] M Q := by
  refine ct_i (by decide) (Nat.le_of_ble_eq_true rfl) ?_
  intro p e s m args below meth c hC
  have hC : Cx p s m args meth c D K cX11_fewest 2 RX11 (some .int) := hC
  unfold f_X11_fewest at hf
  refine (show G p l e (rmF 2 54) s m args below meth c B D K 2 0 0 (ZI below args s B D K Q) M 0 [(0, .ref (B + 0)), (1, J v1)] [] from ?_)
  refine g_aload_n hC 0 dX11_fewest_0 rfl rfl ?_
  refine g_getr hC okX11 sc0 2 (by decide) rfl wf_X11_28 dX11_fewest_1 ?_
  refine g_iload_n hC 1 dX11_fewest_4 rfl rfl ?_
  refine g_callVZ hC (sk := []) [J v1] (c_X5_isPlace l B D K 12 v1 (Or.inr (Or.inl rfl)) i_v1 M hM _ hf) yv_X5_isPlace wm_X11_218 okX5.1 (sh_X5 (Or.inr (Or.inl rfl))) rfl ⟨Nat.le_of_ble_eq_true rfl, Nat.le_of_ble_eq_true rfl, Nat.le_of_ble_eq_true rfl, Nat.le_of_ble_eq_true rfl⟩ rfl (Nat.le_of_ble_eq_true rfl) dX11_fewest_5 ?_
  rintro r_1 M_2 h_r_1 - ⟨rfl, hf⟩
  refine g_if_eq hC 26 (zi_ h_r_1) dX11_fewest_8 rfl (fun c_6 => ?_) (fun c_6 => ?_)
  · replace hf := hf.1 c_6
    refine g_iconst hC dX11_fewest_26 ?_
    exact g_reti hC (by unfold inR; omega) hM hf dX11_fewest_27
  · replace hf := hf.2 c_6
    refine g_aload_n hC 0 dX11_fewest_11 rfl rfl ?_
    refine g_getr hC okX11 sc0 6 (by decide) rfl wf_X11_42 dX11_fewest_12 ?_
    refine g_geti hC okX1 (sh_X1 (Or.inl rfl)) 11 (by decide) rfl wf_X11_159 dX11_fewest_15 ?_
    refine g_iload_n hC 1 dX11_fewest_18 rfl rfl ?_
    refine g_ishr hC dX11_fewest_19 ?_
    refine g_iconst hC dX11_fewest_20 ?_
    refine g_iand hC dX11_fewest_21 ?_
    refine g_iconst hC dX11_fewest_22 ?_
    refine g_icmp_ne hC 28 (bAnd_in _ _) (by unfold inR; omega) dX11_fewest_23 rfl (fun c_5 => ?_) (fun c_5 => ?_)
    · replace hf := hf.1 c_5
      refine g_aload_n hC 0 dX11_fewest_28 rfl rfl ?_
      refine g_getr hC okX11 sc0 12 (by decide) rfl wf_X11_84 dX11_fewest_29 ?_
      refine g_aload_n hC 0 dX11_fewest_32 rfl rfl ?_
      refine g_getr hC okX11 sc0 2 (by decide) rfl wf_X11_28 dX11_fewest_33 ?_
      refine g_aload_n hC 0 dX11_fewest_36 rfl rfl ?_
      refine g_getr hC okX11 sc0 6 (by decide) rfl wf_X11_42 dX11_fewest_37 ?_
      refine g_geti hC okX1 (sh_X1 (Or.inl rfl)) 11 (by decide) rfl wf_X11_159 dX11_fewest_40 ?_
      refine g_iload_n hC 1 dX11_fewest_43 rfl rfl ?_
      refine g_callVI hC (sk := []) [.ref (B + 12), J (M 20 11), J v1] (c_X7_howManyApart l B D K 12 (M 20 11) v1 (Or.inr (Or.inl rfl)) (hM _ _) i_v1 M hM _ hf) yv_X7_howManyApart wm_X11_329 okX7.1 sc68 rfl ⟨Nat.le_of_ble_eq_true rfl, Nat.le_of_ble_eq_true rfl, Nat.le_of_ble_eq_true rfl, Nat.le_of_ble_eq_true rfl⟩ rfl (Nat.le_of_ble_eq_true rfl) dX11_fewest_44 ?_
      intro r_3 M_4 h_r_3 h_M_4 hf
      exact g_reti hC h_r_3 h_M_4 hf dX11_fewest_47
    · replace hf := hf.2 c_5
      refine g_iconst hC dX11_fewest_26 ?_
      exact g_reti hC (by unfold inR; omega) hM hf dX11_fewest_27
set_option maxHeartbeats 4000000 in
set_option maxRecDepth 100000 in
theorem c_X11_wave (l : Launch) (B : Nat) (D : va_G) (K : Nat → ClassId) (v1 : Int) (v2 : Int) (i_v1 : inR v1) (i_v2 : inR v2) (M : Mem) (hM : MR M) (Q : Int → Mem → Prop) (hf : f_X11_wave v1 v2 M Q) : CtI l yX11_wave cX11_wave 3 3 67 B D K [.ref (B + 0), J v1, J v2] M Q := by
  refine ct_i (by decide) (Nat.le_of_ble_eq_true rfl) ?_
  intro p e s m args below meth c hC
  have hC : Cx p s m args meth c D K cX11_wave 3 RX11 (some .int) := hC
  unfold f_X11_wave at hf
  refine (show G p l e (rmF 3 67) s m args below meth c B D K 3 0 0 (ZI below args s B D K Q) M 0 [(0, .ref (B + 0)), (1, J v1), (2, J v2)] [] from ?_)
  refine g_aload_n hC 0 dX11_wave_0 rfl rfl ?_
  refine g_getr hC okX11 sc0 2 (by decide) rfl wf_X11_28 dX11_wave_1 ?_
  refine g_iload_n hC 1 dX11_wave_4 rfl rfl ?_
  refine g_callVZ hC (sk := []) [J v1] (c_X5_isPlace l B D K 12 v1 (Or.inr (Or.inl rfl)) i_v1 M hM _ hf) yv_X5_isPlace wm_X11_218 okX5.1 (sh_X5 (Or.inr (Or.inl rfl))) rfl ⟨Nat.le_of_ble_eq_true rfl, Nat.le_of_ble_eq_true rfl, Nat.le_of_ble_eq_true rfl, Nat.le_of_ble_eq_true rfl⟩ rfl (Nat.le_of_ble_eq_true rfl) dX11_wave_5 ?_
  rintro r_1 M_2 h_r_1 - ⟨rfl, hf⟩
  refine g_if_ne hC 13 (zi_ h_r_1) dX11_wave_8 rfl (fun c_15 => ?_) (fun c_15 => ?_)
  · replace hf := hf.1 c_15
    refine g_aload_n hC 0 dX11_wave_13 rfl rfl ?_
    refine g_getr hC okX11 sc0 12 (by decide) rfl wf_X11_84 dX11_wave_14 ?_
    refine g_aload_n hC 0 dX11_wave_17 rfl rfl ?_
    refine g_getr hC okX11 sc0 2 (by decide) rfl wf_X11_28 dX11_wave_18 ?_
    refine g_aload_n hC 0 dX11_wave_21 rfl rfl ?_
    refine g_getr hC okX11 sc0 6 (by decide) rfl wf_X11_42 dX11_wave_22 ?_
    refine g_geti hC okX1 (sh_X1 (Or.inl rfl)) 11 (by decide) rfl wf_X11_159 dX11_wave_25 ?_
    refine g_aload_n hC 0 dX11_wave_28 rfl rfl ?_
    refine g_getr hC okX11 sc0 7 (by decide) rfl wf_X11_49 dX11_wave_29 ?_
    refine g_iconst hC dX11_wave_32 ?_
    refine g_aaldk 37 hC sc36 (by decide) (by decide) rfl dX11_wave_33 ?_
    refine g_getr hC okX9 (sh_X9 (Or.inl rfl)) 1 (by decide) rfl wf_X11_332 dX11_wave_34 ?_
    refine g_iload_n hC 1 dX11_wave_37 rfl rfl ?_
    refine g_callVV hC (sk := []) [.ref (B + 12), J (M 20 11), .ref (B + 39), J v1] (c_X7_sendWaves l B D K 12 (M 20 11) 39 v1 (Or.inr (Or.inl rfl)) (hM _ _) (isIA_of (sh_X9_1 (Or.inl rfl))) i_v1 M hM _ hf) yv_X7_sendWaves wm_X11_335 okX7.1 sc68 rfl ⟨Nat.le_of_ble_eq_true rfl, Nat.le_of_ble_eq_true rfl, Nat.le_of_ble_eq_true rfl, Nat.le_of_ble_eq_true rfl⟩ rfl (Nat.le_of_ble_eq_true rfl) dX11_wave_38 ?_
    intro M_3 h_M_3 hf
    refine g_iload_n hC 2 dX11_wave_41 rfl rfl ?_
    by_cases c_6 : v2 = 0
    · replace hf := hf.1 c_6
      refine g_tabIn hC 0 72 i_v2 c_6 dX11_wave_42 (by decide) (by decide) rfl rfl ?_
      refine g_aload_n hC 0 dX11_wave_72 rfl rfl ?_
      refine g_getr hC okX11 sc0 12 (by decide) rfl wf_X11_84 dX11_wave_73 ?_
      refine g_callVI hC (sk := []) [] (c_X7_mostAtOnce l B D K   M_3 h_M_3 _ hf) yv_X7_mostAtOnce wm_X11_339 okX7.1 sc68 rfl ⟨Nat.le_of_ble_eq_true rfl, Nat.le_of_ble_eq_true rfl, Nat.le_of_ble_eq_true rfl, Nat.le_of_ble_eq_true rfl⟩ rfl (Nat.le_of_ble_eq_true rfl) dX11_wave_76 ?_
      rintro r_4 M_5 h_r_4 - ⟨rfl, hf⟩
      exact g_reti hC h_r_4 h_M_3 hf dX11_wave_79
    · replace hf := hf.2
      by_cases c_9 : v2 = 1
      · replace hf := hf.1 c_9
        refine g_tabIn hC 1 80 i_v2 c_9 dX11_wave_42 (by decide) (by decide) rfl rfl ?_
        refine g_aload_n hC 0 dX11_wave_80 rfl rfl ?_
        refine g_getr hC okX11 sc0 12 (by decide) rfl wf_X11_84 dX11_wave_81 ?_
        refine g_callVI hC (sk := []) [] (c_X7_hourOfMost l B D K   M_3 h_M_3 _ hf) yv_X7_hourOfMost wm_X11_343 okX7.1 sc68 rfl ⟨Nat.le_of_ble_eq_true rfl, Nat.le_of_ble_eq_true rfl, Nat.le_of_ble_eq_true rfl, Nat.le_of_ble_eq_true rfl⟩ rfl (Nat.le_of_ble_eq_true rfl) dX11_wave_84 ?_
        rintro r_7 M_8 h_r_7 - ⟨rfl, hf⟩
        exact g_reti hC h_r_7 h_M_3 hf dX11_wave_87
      · replace hf := hf.2
        by_cases c_12 : v2 = 2
        · replace hf := hf.1 c_12
          refine g_tabIn hC 2 88 i_v2 c_12 dX11_wave_42 (by decide) (by decide) rfl rfl ?_
          refine g_aload_n hC 0 dX11_wave_88 rfl rfl ?_
          refine g_getr hC okX11 sc0 12 (by decide) rfl wf_X11_84 dX11_wave_89 ?_
          refine g_callVI hC (sk := []) [] (c_X7_lastHour l B D K   M_3 h_M_3 _ hf) yv_X7_lastHour wm_X11_346 okX7.1 sc68 rfl ⟨Nat.le_of_ble_eq_true rfl, Nat.le_of_ble_eq_true rfl, Nat.le_of_ble_eq_true rfl, Nat.le_of_ble_eq_true rfl⟩ rfl (Nat.le_of_ble_eq_true rfl) dX11_wave_92 ?_
          rintro r_10 M_11 h_r_10 - ⟨rfl, hf⟩
          exact g_reti hC h_r_10 h_M_3 hf dX11_wave_95
        · replace hf := hf.2
          by_cases c_13 : v2 = 3
          · replace hf := hf.1 c_13
            refine g_tabIn hC 3 96 i_v2 c_13 dX11_wave_42 (by decide) (by decide) rfl rfl ?_
            refine g_aload_n hC 0 dX11_wave_96 rfl rfl ?_
            refine g_getr hC okX11 sc0 12 (by decide) rfl wf_X11_84 dX11_wave_97 ?_
            refine g_geti hC okX7 sc68 3 (by decide) rfl wf_X11_349 dX11_wave_100 ?_
            exact g_reti hC (h_M_3 _ _) h_M_3 hf dX11_wave_103
          · replace hf := hf.2
            have c_14 : v2 < 0 ∨ 3 < v2 := by omega
            replace hf := hf c_14
            refine g_tabOut hC 104 i_v2 dX11_wave_42 c_14 rfl ?_
            refine g_iconst hC dX11_wave_104 ?_
            exact g_reti hC (by unfold inR; omega) h_M_3 hf dX11_wave_105
  · replace hf := hf.2 c_15
    refine g_iconst hC dX11_wave_11 ?_
    exact g_reti hC (by unfold inR; omega) hM hf dX11_wave_12
set_option maxHeartbeats 4000000 in
set_option maxRecDepth 100000 in
theorem c_X11_changed (l : Launch) (B : Nat) (D : va_G) (K : Nat → ClassId) (v1 : Int) (i_v1 : inR v1) (M : Mem) (hM : MR M) (Q : Int → Prop) (hf : f_X11_changed v1 M Q) : CtI l yX11_changed cX11_changed 2 0 0 B D K [.ref (B + 0), J v1] M (fun r M1 => M = M1 ∧ Q r) := by
  refine ct_i (by decide) (Nat.le_of_ble_eq_true rfl) ?_
  intro p e s m args below meth c hC
  have hC : Cx p s m args meth c D K cX11_changed 2 RX11 (some .int) := hC
  unfold f_X11_changed at hf
  refine (show G p l e (rmF 0 0) s m args below meth c B D K 2 0 0 (ZI below args s B D K (fun r M1 => M = M1 ∧ Q r)) M 0 [(0, .ref (B + 0)), (1, J v1)] [] from ?_)
  refine g_iload_n hC 1 dX11_changed_0 rfl rfl ?_
  refine g_if_lt hC 19 i_v1 dX11_changed_1 rfl (fun c_4 => ?_) (fun c_4 => ?_)
  · replace hf := hf.1 c_4
    refine g_iconst hC dX11_changed_19 ?_
    exact g_reti hC (by unfold inR; omega) hM ⟨rfl, hf⟩ dX11_changed_20
  · replace hf := hf.2 c_4
    refine g_iload_n hC 1 dX11_changed_4 rfl rfl ?_
    refine g_iconst hC dX11_changed_5 ?_
    refine g_icmp_ge hC 19 i_v1 (by unfold inR; omega) dX11_changed_6 rfl (fun c_3 => ?_) (fun c_3 => ?_)
    · replace hf := hf.1 c_3
      refine g_iconst hC dX11_changed_19 ?_
      exact g_reti hC (by unfold inR; omega) hM ⟨rfl, hf⟩ dX11_changed_20
    · replace hf := hf.2 c_3
      refine g_aload_n hC 0 dX11_changed_9 rfl rfl ?_
      refine g_getr hC okX11 sc0 9 (by decide) rfl wf_X11_63 dX11_changed_10 ?_
      refine g_geti hC okX0 sc60 0 (by decide) rfl wf_X11_352 dX11_changed_13 ?_
      refine g_if_ne hC 21 (hM _ _) dX11_changed_16 rfl (fun c_2 => ?_) (fun c_2 => ?_)
      · replace hf := hf.1 c_2
        refine g_aload_n hC 0 dX11_changed_21 rfl rfl ?_
        refine g_getr hC okX11 sc0 9 (by decide) rfl wf_X11_63 dX11_changed_22 ?_
        refine g_getr hC okX0 sc60 2 (by decide) rfl wf_X11_356 dX11_changed_25 ?_
        refine g_iload_n hC 1 dX11_changed_28 rfl rfl ?_
        obtain ⟨q_1, hf⟩ := hf
        refine g_ialdk (v1.toNat) hC sc61 q_1.1 q_1.2 rfl dX11_changed_29 ?_
        exact g_reti hC (hM _ _) hM ⟨rfl, hf⟩ dX11_changed_30
      · replace hf := hf.2 c_2
        refine g_iconst hC dX11_changed_19 ?_
        exact g_reti hC (by unfold inR; omega) hM ⟨rfl, hf⟩ dX11_changed_20
set_option maxHeartbeats 4000000 in
set_option maxRecDepth 100000 in
theorem c_X11_see (l : Launch) (B : Nat) (D : va_G) (K : Nat → ClassId)   (M : Mem) (hM : MR M) (Q : Int → Mem → Prop) (hf : f_X11_see  M Q) : CtI l yX11_see cX11_see 2 2 44 B D K [.ref (B + 0)] M Q := by
  refine ct_i (by decide) (Nat.le_of_ble_eq_true rfl) ?_
  intro p e s m args below meth c hC
  have hC : Cx p s m args meth c D K cX11_see 2 RX11 (some .int) := hC
  unfold f_X11_see at hf
  refine (show G p l e (rmF 2 44) s m args below meth c B D K 2 0 0 (ZI below args s B D K Q) M 0 [(0, .ref (B + 0))] [] from ?_)
  refine g_aload_n hC 0 dX11_see_0 rfl rfl ?_
  refine g_getr hC okX11 sc0 10 (by decide) rfl wf_X11_70 dX11_see_1 ?_
  refine g_aload_n hC 0 dX11_see_4 rfl rfl ?_
  refine g_getr hC okX11 sc0 0 (by decide) rfl wf_X11_10 dX11_see_5 ?_
  refine g_aload_n hC 0 dX11_see_8 rfl rfl ?_
  refine g_getr hC okX11 sc0 2 (by decide) rfl wf_X11_28 dX11_see_9 ?_
  refine g_geti hC okX5 (sh_X5 (Or.inr (Or.inl rfl))) 1 (by decide) rfl wf_X11_147 dX11_see_12 ?_
  refine g_callVZ hC (sk := []) [.ref (B + 1), J (M 12 1)] (c_X8_take l B D K (M 12 1) (hM _ _) M hM _ hf) yv_X8_take wm_X11_358 okX8.1 sc63 rfl ⟨Nat.le_of_ble_eq_true rfl, Nat.le_of_ble_eq_true rfl, Nat.le_of_ble_eq_true rfl, Nat.le_of_ble_eq_true rfl⟩ rfl (Nat.le_of_ble_eq_true rfl) dX11_see_15 ?_
  intro r_1 M_2 h_r_1 h_M_2 hf
  refine g_istore_n hC [(1, J r_1), (0, .ref (B + 0))] dX11_see_18 rfl (by decide) rfl ?_
  refine g_aload_n hC 1 dX11_see_19 rfl rfl ?_
  refine g_getr hC okX11 sc0 0 (by decide) rfl wf_X11_10 dX11_see_20 ?_
  refine g_iconst hC dX11_see_23 ?_
  refine g_puti hC okX10 tnX10 sc1 1 (by decide) rfl rfl (by decide) wf_X11_113 dX11_see_24 ?_
  refine g_nmM (fun M_3 e_M_3 => ?_)
  replace hf := hf M_3 e_M_3
  have h_M_3 : MR M_3 := by rw [e_M_3]; exact MR_st h_M_2 (by unfold inR; omega)
  refine g_iload_n hC 0 dX11_see_27 rfl rfl ?_
  refine g_if_eq hC 41 (zi_ h_r_1) dX11_see_28 rfl (fun c_6 => ?_) (fun c_6 => ?_)
  · replace hf := hf.1 c_6
    refine g_aload_n hC 1 dX11_see_41 rfl rfl ?_
    refine g_iconst hC dX11_see_42 ?_
    refine g_callVI hC (sk := []) [J 1] (c_X11_refuse l B D K 1 (by unfold inR; omega) M_3 h_M_3 _ hf) yv_X11_refuse wm_X11_105 okX11.1 sc0 rfl ⟨Nat.le_of_ble_eq_true rfl, Nat.le_of_ble_eq_true rfl, Nat.le_of_ble_eq_true rfl, Nat.le_of_ble_eq_true rfl⟩ rfl (Nat.le_of_ble_eq_true rfl) dX11_see_43 ?_
    intro r_4 M_5 h_r_4 h_M_5 hf
    exact g_reti hC h_r_4 h_M_5 hf dX11_see_46
  · replace hf := hf.2 c_6
    refine g_aload_n hC 1 dX11_see_31 rfl rfl ?_
    refine g_getr hC okX11 sc0 10 (by decide) rfl wf_X11_70 dX11_see_32 ?_
    refine g_geti hC okX8 sc63 0 (by decide) rfl wf_X11_138 dX11_see_35 ?_
    refine g_goto hC 46 dX11_see_38 rfl ?_
    exact g_reti hC (h_M_3 _ _) h_M_3 hf dX11_see_46
set_option maxHeartbeats 4000000 in
set_option maxRecDepth 100000 in
theorem c_X11_fits (l : Launch) (B : Nat) (D : va_G) (K : Nat → ClassId)   (M : Mem) (hM : MR M) (Q : Int → Prop) (hf : f_X11_fits  M Q) : CtI l yX11_fits cX11_fits 1 2 47 B D K [.ref (B + 0)] M (fun r M1 => M = M1 ∧ Q r) := by
  refine ct_i (by decide) (Nat.le_of_ble_eq_true rfl) ?_
  intro p e s m args below meth c hC
  have hC : Cx p s m args meth c D K cX11_fits 1 RX11 (some .int) := hC
  unfold f_X11_fits at hf
  refine (show G p l e (rmF 2 47) s m args below meth c B D K 1 0 0 (ZI below args s B D K (fun r M1 => M = M1 ∧ Q r)) M 0 [(0, .ref (B + 0))] [] from ?_)
  refine g_aload_n hC 0 dX11_fits_0 rfl rfl ?_
  refine g_getr hC okX11 sc0 10 (by decide) rfl wf_X11_70 dX11_fits_1 ?_
  refine g_aload_n hC 0 dX11_fits_4 rfl rfl ?_
  refine g_getr hC okX11 sc0 2 (by decide) rfl wf_X11_28 dX11_fits_5 ?_
  refine g_aload_n hC 0 dX11_fits_8 rfl rfl ?_
  refine g_getr hC okX11 sc0 6 (by decide) rfl wf_X11_42 dX11_fits_9 ?_
  refine g_getr hC okX1 (sh_X1 (Or.inl rfl)) 5 (by decide) rfl wf_X11_271 dX11_fits_12 ?_
  refine g_callVI hC (sk := []) [.ref (B + 12), .ref (B + 26)] (c_X8_fitting l B D K 12 26 (Or.inr (Or.inl rfl)) (isIA_of (sh_X1_5 (Or.inl rfl))) M hM _ hf) yv_X8_fitting wm_X11_362 okX8.1 sc63 rfl ⟨Nat.le_of_ble_eq_true rfl, Nat.le_of_ble_eq_true rfl, Nat.le_of_ble_eq_true rfl, Nat.le_of_ble_eq_true rfl⟩ rfl (Nat.le_of_ble_eq_true rfl) dX11_fits_15 ?_
  rintro r_1 M_2 h_r_1 - ⟨rfl, hf⟩
  exact g_reti hC h_r_1 hM ⟨rfl, hf⟩ dX11_fits_18
set_option maxHeartbeats 4000000 in
set_option maxRecDepth 100000 in
theorem c_X11_tells (l : Launch) (B : Nat) (D : va_G) (K : Nat → ClassId) (v1 : Int) (i_v1 : inR v1) (M : Mem) (hM : MR M) (Q : Int → Prop) (hf : f_X11_tells v1 M Q) : CtI l yX11_tells cX11_tells 4 3 91 B D K [.ref (B + 0), J v1] M (fun r M1 => M = M1 ∧ Q r) := by
  refine ct_i (by decide) (Nat.le_of_ble_eq_true rfl) ?_
  intro p e s m args below meth c hC
  have hC : Cx p s m args meth c D K cX11_tells 4 RX11 (some .int) := hC
  unfold f_X11_tells at hf
  refine (show G p l e (rmF 3 91) s m args below meth c B D K 4 0 0 (ZI below args s B D K (fun r M1 => M = M1 ∧ Q r)) M 0 [(0, .ref (B + 0)), (1, J v1)] [] from ?_)
  refine g_aload_n hC 0 dX11_tells_0 rfl rfl ?_
  refine g_getr hC okX11 sc0 10 (by decide) rfl wf_X11_70 dX11_tells_1 ?_
  refine g_aload_n hC 0 dX11_tells_4 rfl rfl ?_
  refine g_getr hC okX11 sc0 2 (by decide) rfl wf_X11_28 dX11_tells_5 ?_
  refine g_aload_n hC 0 dX11_tells_8 rfl rfl ?_
  refine g_getr hC okX11 sc0 6 (by decide) rfl wf_X11_42 dX11_tells_9 ?_
  refine g_getr hC okX1 (sh_X1 (Or.inl rfl)) 5 (by decide) rfl wf_X11_271 dX11_tells_12 ?_
  refine g_callVI hC (sk := []) [.ref (B + 12), .ref (B + 26)] (c_X8_fitting l B D K 12 26 (Or.inr (Or.inl rfl)) (isIA_of (sh_X1_5 (Or.inl rfl))) M hM _ hf) yv_X8_fitting wm_X11_362 okX8.1 sc63 rfl ⟨Nat.le_of_ble_eq_true rfl, Nat.le_of_ble_eq_true rfl, Nat.le_of_ble_eq_true rfl, Nat.le_of_ble_eq_true rfl⟩ rfl (Nat.le_of_ble_eq_true rfl) dX11_tells_15 ?_
  rintro r_1 M_2 h_r_1 - ⟨rfl, hf⟩
  refine g_istore_n hC [(2, J r_1), (0, .ref (B + 0)), (1, J v1)] dX11_tells_18 rfl (by decide) rfl ?_
  refine g_iload_n hC 0 dX11_tells_19 rfl rfl ?_
  refine g_iconst hC dX11_tells_20 ?_
  refine g_icmp_eq hC 28 h_r_1 (by unfold inR; omega) dX11_tells_21 rfl (fun c_11 => ?_) (fun c_11 => ?_)
  · replace hf := hf.1 c_11
    refine g_iconst hC dX11_tells_28 ?_
    exact g_reti hC (by unfold inR; omega) hM ⟨rfl, hf⟩ dX11_tells_29
  · replace hf := hf.2 c_11
    refine g_iload_n hC 0 dX11_tells_24 rfl rfl ?_
    refine g_if_ne hC 30 h_r_1 dX11_tells_25 rfl (fun c_10 => ?_) (fun c_10 => ?_)
    · replace hf := hf.1 c_10
      refine g_aload_n hC 1 dX11_tells_30 rfl rfl ?_
      refine g_getr hC okX11 sc0 6 (by decide) rfl wf_X11_42 dX11_tells_31 ?_
      refine g_aload_n hC 1 dX11_tells_34 rfl rfl ?_
      refine g_getr hC okX11 sc0 2 (by decide) rfl wf_X11_28 dX11_tells_35 ?_
      refine g_iload_n hC 0 dX11_tells_38 rfl rfl ?_
      refine g_callVI hC (sk := []) [.ref (B + 12), J r_1] (c_X1_telling l B D K 20 12 r_1 (Or.inl rfl) (Or.inr (Or.inl rfl)) h_r_1 M hM _ hf) yv_X1_telling wm_X11_366 okX1.1 (sh_X1 (Or.inl rfl)) rfl ⟨Nat.le_of_ble_eq_true rfl, Nat.le_of_ble_eq_true rfl, Nat.le_of_ble_eq_true rfl, Nat.le_of_ble_eq_true rfl⟩ rfl (Nat.le_of_ble_eq_true rfl) dX11_tells_39 ?_
      rintro r_3 M_4 h_r_3 - ⟨rfl, hf⟩
      refine g_istore_n hC [(3, J r_3), (2, J r_1), (0, .ref (B + 0)), (1, J v1)] dX11_tells_42 rfl (by decide) rfl ?_
      refine g_iload_n hC 3 dX11_tells_43 rfl rfl ?_
      by_cases c_5 : v1 = 0
      · replace hf := hf.1 c_5
        refine g_look (off := 28) hC 72 i_v1 dX11_tells_44 rfl (by first | (rw [c_5]; done) | (rw [c_5]; rfl)) rfl ?_
        refine g_iload_n hC 0 dX11_tells_72 rfl rfl ?_
        exact g_reti hC h_r_3 hM ⟨rfl, hf⟩ dX11_tells_73
      · replace hf := hf.2
        by_cases c_9 : v1 = 1
        · replace hf := hf.1 c_9
          refine g_look (off := 30) hC 74 i_v1 dX11_tells_44 rfl (by first | (rw [c_9]; done) | (rw [c_9]; rfl)) rfl ?_
          refine g_iload_n hC 0 dX11_tells_74 rfl rfl ?_
          refine g_iconst hC dX11_tells_75 ?_
          refine g_icmp_ne hC 83 h_r_3 (by unfold inR; omega) dX11_tells_76 rfl (fun c_8 => ?_) (fun c_8 => ?_)
          · replace hf := hf.1 c_8
            refine g_aload_n hC 2 dX11_tells_83 rfl rfl ?_
            refine g_getr hC okX11 sc0 6 (by decide) rfl wf_X11_42 dX11_tells_84 ?_
            refine g_aload_n hC 2 dX11_tells_87 rfl rfl ?_
            refine g_getr hC okX11 sc0 2 (by decide) rfl wf_X11_28 dX11_tells_88 ?_
            refine g_iload_n hC 1 dX11_tells_91 rfl rfl ?_
            refine g_iload_n hC 0 dX11_tells_92 rfl rfl ?_
            refine g_callVI hC (sk := []) [.ref (B + 12), J r_1, J r_3] (c_X1_leftAtMost l B D K 20 12 r_1 r_3 (Or.inl rfl) (Or.inr (Or.inl rfl)) h_r_1 h_r_3 M hM _ hf) yv_X1_leftAtMost wm_X11_369 okX1.1 (sh_X1 (Or.inl rfl)) rfl ⟨Nat.le_of_ble_eq_true rfl, Nat.le_of_ble_eq_true rfl, Nat.le_of_ble_eq_true rfl, Nat.le_of_ble_eq_true rfl⟩ rfl (Nat.le_of_ble_eq_true rfl) dX11_tells_93 ?_
            rintro r_6 M_7 h_r_6 - ⟨rfl, hf⟩
            exact g_reti hC h_r_6 hM ⟨rfl, hf⟩ dX11_tells_96
          · replace hf := hf.2 c_8
            refine g_iconst hC dX11_tells_79 ?_
            refine g_goto hC 96 dX11_tells_80 rfl ?_
            exact g_reti hC (by unfold inR; omega) hM ⟨rfl, hf⟩ dX11_tells_96
        · replace hf := hf.2
          replace hf := hf ⟨c_5, c_9⟩
          refine g_look (off := 53) hC 97 i_v1 dX11_tells_44 rfl (by simp [Op.lookupswitch.offset, c_5, c_9, Ne.symm c_5, Ne.symm c_9]) rfl ?_
          refine g_iconst hC dX11_tells_97 ?_
          exact g_reti hC (by unfold inR; omega) hM ⟨rfl, hf⟩ dX11_tells_98
    · replace hf := hf.2 c_10
      refine g_iconst hC dX11_tells_28 ?_
      exact g_reti hC (by unfold inR; omega) hM ⟨rfl, hf⟩ dX11_tells_29
set_option maxHeartbeats 4000000 in
set_option maxRecDepth 100000 in
theorem c_X11_beginAct (l : Launch) (B : Nat) (D : va_G) (K : Nat → ClassId)   (M : Mem) (hM : MR M) (Q : Mem → Prop) (hf : f_X11_beginAct  M Q) : CtV l yX11_beginAct cX11_beginAct 3 2 44 B D K [.ref (B + 0)] M Q := by
  refine ct_v (by decide) (Nat.le_of_ble_eq_true rfl) ?_
  intro p e s m args below meth c hC
  have hC : Cx p s m args meth c D K cX11_beginAct 3 RX11 none := hC
  unfold f_X11_beginAct at hf
  refine (show G p l e (rmF 2 44) s m args below meth c B D K 3 0 0 (ZV below args s B D K Q) M 0 [(0, .ref (B + 0))] [] from ?_)
  refine g_aload_n hC 0 dX11_beginAct_0 rfl rfl ?_
  refine g_getr hC okX11 sc0 8 (by decide) rfl wf_X11_56 dX11_beginAct_1 ?_
  refine g_aload_n hC 0 dX11_beginAct_4 rfl rfl ?_
  refine g_getr hC okX11 sc0 2 (by decide) rfl wf_X11_28 dX11_beginAct_5 ?_
  refine g_callVV hC (sk := []) [.ref (B + 12)] (c_X3_keep l B D K 12 (Or.inr (Or.inl rfl)) M hM _ hf) yv_X3_keep wm_X11_435 okX3.1 sc58 rfl ⟨Nat.le_of_ble_eq_true rfl, Nat.le_of_ble_eq_true rfl, Nat.le_of_ble_eq_true rfl, Nat.le_of_ble_eq_true rfl⟩ rfl (Nat.le_of_ble_eq_true rfl) dX11_beginAct_8 ?_
  intro M_1 h_M_1 hf
  refine g_iconst hC dX11_beginAct_11 ?_
  refine g_istore_n hC [(1, J 0), (0, .ref (B + 0))] dX11_beginAct_12 rfl (by decide) rfl ?_
  refine g_sub [(0, .ref (B + 0)), (1, J 0)] [1, 0] rfl ?_
  refine wl2_elim (fun (v1_2 : Int) (M_3 : Mem) => inR v1_2 → MR M_3 → G p l e (rmF 2 44) s m args below meth c B D K 3 0 0 (ZV below args s B D K Q) M_3 13 [(0, .ref (B + 0)), (1, J v1_2)] []) ?_ 5000 0 M_1 hf (by unfold inR; omega) h_M_1
  intro rec13 ih13 v1_2 M_3 hf h_v1_2 h_M_3
  unfold X11_beginAct_b13 at hf
  refine g_iload_n hC 1 dX11_beginAct_13 rfl rfl ?_
  refine g_iconst hC dX11_beginAct_14 ?_
  refine g_icmp_ge hC 59 h_v1_2 (by unfold inR; omega) dX11_beginAct_15 rfl (fun c_15 => ?_) (fun c_15 => ?_)
  · replace hf := hf.1 c_15
    refine g_aload_n hC 0 dX11_beginAct_59 rfl rfl ?_
    refine g_getr hC okX11 sc0 9 (by decide) rfl wf_X11_63 dX11_beginAct_60 ?_
    refine g_aload_n hC 0 dX11_beginAct_63 rfl rfl ?_
    refine g_getr hC okX11 sc0 2 (by decide) rfl wf_X11_28 dX11_beginAct_64 ?_
    refine g_geti hC okX5 (sh_X5 (Or.inr (Or.inl rfl))) 1 (by decide) rfl wf_X11_147 dX11_beginAct_67 ?_
    refine g_puti hC okX0 tnX0 sc60 1 (by decide) rfl rfl (by decide) wf_X11_442 dX11_beginAct_70 ?_
    refine g_nmM (fun M_4 e_M_4 => ?_)
    replace hf := hf M_4 e_M_4
    have h_M_4 : MR M_4 := by rw [e_M_4]; exact MR_st h_M_3 (h_M_3 _ _)
    exact g_retv hC h_M_4 hf dX11_beginAct_73
  · replace hf := hf.2 c_15
    refine g_iconst hC dX11_beginAct_18 ?_
    refine g_istore_n hC [(2, J 0), (0, .ref (B + 0)), (1, J v1_2)] dX11_beginAct_19 rfl (by decide) rfl ?_
    refine g_sub [(0, .ref (B + 0)), (1, J v1_2), (2, J 0)] [1, 2, 0] rfl ?_
    refine wl2_elim (fun (v2_5 : Int) (M_6 : Mem) => inR v2_5 → MR M_6 → G p l e (rmF 2 44) s m args below meth c B D K 3 0 0 (ZV below args s B D K Q) M_6 20 [(0, .ref (B + 0)), (1, J v1_2), (2, J v2_5)] []) ?_ 5000 0 M_3 hf (by unfold inR; omega) h_M_3
    intro rec20 ih20 v2_5 M_6 hf h_v2_5 h_M_6
    unfold X11_beginAct_b20 at hf
    refine g_iload_n hC 2 dX11_beginAct_20 rfl rfl ?_
    refine g_aload_n hC 0 dX11_beginAct_21 rfl rfl ?_
    refine g_getr hC okX11 sc0 2 (by decide) rfl wf_X11_28 dX11_beginAct_22 ?_
    refine g_geti hC okX5 (sh_X5 (Or.inr (Or.inl rfl))) 1 (by decide) rfl wf_X11_147 dX11_beginAct_25 ?_
    refine g_icmp_ge hC 53 h_v2_5 (h_M_6 _ _) dX11_beginAct_28 rfl (fun c_14 => ?_) (fun c_14 => ?_)
    · replace hf := hf.1 c_14
      obtain ⟨q_8, hf⟩ := hf
      obtain ⟨v1_7, e_v1_7⟩ : ∃ z : Int, z = v1_2 + 1 := ⟨_, rfl⟩
      replace hf := hf v1_7 e_v1_7
      have h_v1_7 : inR v1_7 := by rw [e_v1_7]; exact q_8
      refine g_iincv hC 1 e_v1_7 [(1, J v1_7), (0, .ref (B + 0)), (2, J v2_5)] dX11_beginAct_53 rfl (by decide) rfl ?_
      refine g_goto hC 13 dX11_beginAct_56 rfl ?_
      refine g_sub [(0, .ref (B + 0)), (1, J v1_7)] [1, 0] rfl ?_
      exact ih13 v1_7 M_6 hf h_v1_7 h_M_6
    · replace hf := hf.2 c_14
      refine g_aload_n hC 0 dX11_beginAct_31 rfl rfl ?_
      refine g_getr hC okX11 sc0 9 (by decide) rfl wf_X11_63 dX11_beginAct_32 ?_
      refine g_iload_n hC 1 dX11_beginAct_35 rfl rfl ?_
      refine g_iload_n hC 2 dX11_beginAct_36 rfl rfl ?_
      refine g_aload_n hC 0 dX11_beginAct_37 rfl rfl ?_
      refine g_iload_n hC 2 dX11_beginAct_38 rfl rfl ?_
      refine g_iload_n hC 1 dX11_beginAct_39 rfl rfl ?_
      refine g_iconst hC dX11_beginAct_40 ?_
      refine g_callVI hC (sk := [J v2_5, J v1_2, .ref (B + 60)]) [J v2_5, J v1_2, J 0] (c_X11_rankOf l B D K v2_5 v1_2 0 h_v2_5 h_v1_2 (by unfold inR; omega) M_6 h_M_6 _ hf) yv_X11_rankOf wm_X11_239 okX11.1 sc0 rfl ⟨Nat.le_of_ble_eq_true rfl, Nat.le_of_ble_eq_true rfl, Nat.le_of_ble_eq_true rfl, Nat.le_of_ble_eq_true rfl⟩ rfl (Nat.le_of_ble_eq_true rfl) dX11_beginAct_41 ?_
      rintro r_9 M_10 h_r_9 - ⟨rfl, hf⟩
      refine g_callVV hC (sk := []) [J v1_2, J v2_5, J r_9] (c_X0_note l B D K v1_2 v2_5 r_9 h_v1_2 h_v2_5 h_r_9 M_6 h_M_6 _ hf) yv_X0_note wm_X11_438 okX0.1 sc60 rfl ⟨Nat.le_of_ble_eq_true rfl, Nat.le_of_ble_eq_true rfl, Nat.le_of_ble_eq_true rfl, Nat.le_of_ble_eq_true rfl⟩ rfl (Nat.le_of_ble_eq_true rfl) dX11_beginAct_44 ?_
      intro M_11 h_M_11 hf
      obtain ⟨q_13, hf⟩ := hf
      obtain ⟨v2_12, e_v2_12⟩ : ∃ z : Int, z = v2_5 + 1 := ⟨_, rfl⟩
      replace hf := hf v2_12 e_v2_12
      have h_v2_12 : inR v2_12 := by rw [e_v2_12]; exact q_13
      refine g_iincv hC 2 e_v2_12 [(2, J v2_12), (0, .ref (B + 0)), (1, J v1_2)] dX11_beginAct_47 rfl (by decide) rfl ?_
      refine g_goto hC 20 dX11_beginAct_50 rfl ?_
      refine g_sub [(0, .ref (B + 0)), (1, J v1_2), (2, J v2_12)] [1, 2, 0] rfl ?_
      exact ih20 v2_12 M_11 hf h_v2_12 h_M_11
set_option maxHeartbeats 4000000 in
set_option maxRecDepth 100000 in
theorem c_X11_endAct (l : Launch) (B : Nat) (D : va_G) (K : Nat → ClassId)   (M : Mem) (hM : MR M) (Q : Mem → Prop) (hf : f_X11_endAct  M Q) : CtV l yX11_endAct cX11_endAct 4 5 130 B D K [.ref (B + 0)] M Q := by
  refine ct_v (by decide) (Nat.le_of_ble_eq_true rfl) ?_
  intro p e s m args below meth c hC
  have hC : Cx p s m args meth c D K cX11_endAct 4 RX11 none := hC
  unfold f_X11_endAct at hf
  refine (show G p l e (rmF 5 130) s m args below meth c B D K 4 0 0 (ZV below args s B D K Q) M 0 [(0, .ref (B + 0))] [] from ?_)
  refine g_aload_n hC 0 dX11_endAct_0 rfl rfl ?_
  refine g_callVV hC (sk := []) [] (c_X11_figure l B D K   M hM _ hf) yv_X11_figure wm_X11_144 okX11.1 sc0 rfl ⟨Nat.le_of_ble_eq_true rfl, Nat.le_of_ble_eq_true rfl, Nat.le_of_ble_eq_true rfl, Nat.le_of_ble_eq_true rfl⟩ rfl (Nat.le_of_ble_eq_true rfl) dX11_endAct_1 ?_
  intro M_1 h_M_1 hf
  refine g_aload_n hC 0 dX11_endAct_4 rfl rfl ?_
  refine g_getr hC okX11 sc0 9 (by decide) rfl wf_X11_63 dX11_endAct_5 ?_
  refine g_callVV hC (sk := []) [] (c_X0_begin l B D K   M_1 h_M_1 _ hf) yv_X0_begin wm_X11_445 okX0.1 sc60 rfl ⟨Nat.le_of_ble_eq_true rfl, Nat.le_of_ble_eq_true rfl, Nat.le_of_ble_eq_true rfl, Nat.le_of_ble_eq_true rfl⟩ rfl (Nat.le_of_ble_eq_true rfl) dX11_endAct_8 ?_
  intro M_2 h_M_2 hf
  refine g_aload_n hC 0 dX11_endAct_11 rfl rfl ?_
  refine g_getr hC okX11 sc0 9 (by decide) rfl wf_X11_63 dX11_endAct_12 ?_
  refine g_geti hC okX0 sc60 1 (by decide) rfl wf_X11_442 dX11_endAct_15 ?_
  refine g_aload_n hC 0 dX11_endAct_18 rfl rfl ?_
  refine g_getr hC okX11 sc0 2 (by decide) rfl wf_X11_28 dX11_endAct_19 ?_
  refine g_geti hC okX5 (sh_X5 (Or.inr (Or.inl rfl))) 1 (by decide) rfl wf_X11_147 dX11_endAct_22 ?_
  refine g_min hC (h_M_2 _ _) (h_M_2 _ _) ⟨wm_X11_448, wj_min⟩ (Nat.le_of_ble_eq_true rfl) (Nat.le_of_ble_eq_true rfl) (Nat.zero_le _) (Nat.zero_le _) dX11_endAct_25 ?_
  refine g_nm (fun v1_3 e_v1_3 => ?_)
  replace hf := hf v1_3 e_v1_3
  have h_v1_3 : inR v1_3 := by rw [e_v1_3]; exact (min_in (h_M_2 _ _) (h_M_2 _ _))
  refine g_istore_n hC [(1, J v1_3), (0, .ref (B + 0))] dX11_endAct_28 rfl (by decide) rfl ?_
  refine g_iconst hC dX11_endAct_29 ?_
  refine g_istore_n hC [(2, J 0), (1, J v1_3), (0, .ref (B + 0))] dX11_endAct_30 rfl (by decide) rfl ?_
  refine g_sub [(0, .ref (B + 0)), (1, J v1_3), (2, J 0)] [2, 1, 0] rfl ?_
  refine wl2_elim (fun (v2_4 : Int) (M_5 : Mem) => inR v2_4 → MR M_5 → G p l e (rmF 5 130) s m args below meth c B D K 4 0 0 (ZV below args s B D K Q) M_5 31 [(0, .ref (B + 0)), (1, J v1_3), (2, J v2_4)] []) ?_ 5000 0 M_2 hf (by unfold inR; omega) h_M_2
  intro rec31 ih31 v2_4 M_5 hf h_v2_4 h_M_5
  unfold X11_endAct_b31 at hf
  refine g_iload_n hC 2 dX11_endAct_31 rfl rfl ?_
  refine g_iconst hC dX11_endAct_32 ?_
  refine g_icmp_ge hC 71 h_v2_4 (by unfold inR; omega) dX11_endAct_33 rfl (fun c_16 => ?_) (fun c_16 => ?_)
  · replace hf := hf.1 c_16
    exact g_retv hC h_M_5 hf dX11_endAct_71
  · replace hf := hf.2 c_16
    refine g_iconst hC dX11_endAct_36 ?_
    refine g_istore_n hC [(3, J 0), (0, .ref (B + 0)), (1, J v1_3), (2, J v2_4)] dX11_endAct_37 rfl (by decide) rfl ?_
    refine g_sub [(0, .ref (B + 0)), (1, J v1_3), (2, J v2_4), (3, J 0)] [1, 2, 3, 0] rfl ?_
    refine wl2_elim (fun (v3_6 : Int) (M_7 : Mem) => inR v3_6 → MR M_7 → G p l e (rmF 5 130) s m args below meth c B D K 4 0 0 (ZV below args s B D K Q) M_7 38 [(0, .ref (B + 0)), (1, J v1_3), (2, J v2_4), (3, J v3_6)] []) ?_ 5000 0 M_5 hf (by unfold inR; omega) h_M_5
    intro rec38 ih38 v3_6 M_7 hf h_v3_6 h_M_7
    unfold X11_endAct_b38 at hf
    refine g_iload_n hC 3 dX11_endAct_38 rfl rfl ?_
    refine g_iload_n hC 1 dX11_endAct_39 rfl rfl ?_
    refine g_icmp_ge hC 65 h_v3_6 h_v1_3 dX11_endAct_40 rfl (fun c_15 => ?_) (fun c_15 => ?_)
    · replace hf := hf.1 c_15
      obtain ⟨q_9, hf⟩ := hf
      obtain ⟨v2_8, e_v2_8⟩ : ∃ z : Int, z = v2_4 + 1 := ⟨_, rfl⟩
      replace hf := hf v2_8 e_v2_8
      have h_v2_8 : inR v2_8 := by rw [e_v2_8]; exact q_9
      refine g_iincv hC 2 e_v2_8 [(2, J v2_8), (0, .ref (B + 0)), (1, J v1_3), (3, J v3_6)] dX11_endAct_65 rfl (by decide) rfl ?_
      refine g_goto hC 31 dX11_endAct_68 rfl ?_
      refine g_sub [(0, .ref (B + 0)), (1, J v1_3), (2, J v2_8)] [1, 2, 0] rfl ?_
      exact ih31 v2_8 M_7 hf h_v2_8 h_M_7
    · replace hf := hf.2 c_15
      refine g_aload_n hC 0 dX11_endAct_43 rfl rfl ?_
      refine g_getr hC okX11 sc0 9 (by decide) rfl wf_X11_63 dX11_endAct_44 ?_
      refine g_iload_n hC 2 dX11_endAct_47 rfl rfl ?_
      refine g_iload_n hC 3 dX11_endAct_48 rfl rfl ?_
      refine g_aload_n hC 0 dX11_endAct_49 rfl rfl ?_
      refine g_iload_n hC 3 dX11_endAct_50 rfl rfl ?_
      refine g_iload_n hC 2 dX11_endAct_51 rfl rfl ?_
      refine g_iconst hC dX11_endAct_52 ?_
      refine g_callVI hC (sk := [J v3_6, J v2_4, .ref (B + 60)]) [J v3_6, J v2_4, J 0] (c_X11_rankOf l B D K v3_6 v2_4 0 h_v3_6 h_v2_4 (by unfold inR; omega) M_7 h_M_7 _ hf) yv_X11_rankOf wm_X11_239 okX11.1 sc0 rfl ⟨Nat.le_of_ble_eq_true rfl, Nat.le_of_ble_eq_true rfl, Nat.le_of_ble_eq_true rfl, Nat.le_of_ble_eq_true rfl⟩ rfl (Nat.le_of_ble_eq_true rfl) dX11_endAct_53 ?_
      rintro r_10 M_11 h_r_10 - ⟨rfl, hf⟩
      refine g_callVV hC (sk := []) [J v2_4, J v3_6, J r_10] (c_X0_compare l B D K v2_4 v3_6 r_10 h_v2_4 h_v3_6 h_r_10 M_7 h_M_7 _ hf) yv_X0_compare wm_X11_453 okX0.1 sc60 rfl ⟨Nat.le_of_ble_eq_true rfl, Nat.le_of_ble_eq_true rfl, Nat.le_of_ble_eq_true rfl, Nat.le_of_ble_eq_true rfl⟩ rfl (Nat.le_of_ble_eq_true rfl) dX11_endAct_56 ?_
      intro M_12 h_M_12 hf
      obtain ⟨q_14, hf⟩ := hf
      obtain ⟨v3_13, e_v3_13⟩ : ∃ z : Int, z = v3_6 + 1 := ⟨_, rfl⟩
      replace hf := hf v3_13 e_v3_13
      have h_v3_13 : inR v3_13 := by rw [e_v3_13]; exact q_14
      refine g_iincv hC 3 e_v3_13 [(3, J v3_13), (0, .ref (B + 0)), (1, J v1_3), (2, J v2_4)] dX11_endAct_59 rfl (by decide) rfl ?_
      refine g_goto hC 38 dX11_endAct_62 rfl ?_
      refine g_sub [(0, .ref (B + 0)), (1, J v1_3), (2, J v2_4), (3, J v3_13)] [1, 2, 3, 0] rfl ?_
      exact ih38 v3_13 M_12 hf h_v3_13 h_M_12
set_option maxHeartbeats 4000000 in
set_option maxRecDepth 100000 in
theorem c_X11_add (l : Launch) (B : Nat) (D : va_G) (K : Nat → ClassId) (v1 : Int) (v2 : Int) (v3 : Int) (v4 : Int) (i_v1 : inR v1) (i_v2 : inR v2) (i_v3 : inR v3) (i_v4 : inR v4) (M : Mem) (hM : MR M) (Q : Int → Mem → Prop) (hf : f_X11_add v1 v2 v3 v4 M Q) : CtI l yX11_add cX11_add 5 6 153 B D K [.ref (B + 0), J v1, J v2, J v3, J v4] M Q := by
  refine ct_i (by decide) (Nat.le_of_ble_eq_true rfl) ?_
  intro p e s m args below meth c hC
  have hC : Cx p s m args meth c D K cX11_add 5 RX11 (some .int) := hC
  unfold f_X11_add at hf
  refine (show G p l e (rmF 6 153) s m args below meth c B D K 5 0 0 (ZI below args s B D K Q) M 0 [(0, .ref (B + 0)), (1, J v1), (2, J v2), (3, J v3), (4, J v4)] [] from ?_)
  refine g_aload_n hC 0 dX11_add_0 rfl rfl ?_
  refine g_getr hC okX11 sc0 2 (by decide) rfl wf_X11_28 dX11_add_1 ?_
  refine g_iload_n hC 1 dX11_add_4 rfl rfl ?_
  refine g_iload_n hC 2 dX11_add_5 rfl rfl ?_
  refine g_iload_n hC 3 dX11_add_6 rfl rfl ?_
  refine g_iload hC 4 dX11_add_7 rfl ?_
  refine g_callVZ hC (sk := []) [J v1, J v2, J v3, J v4] (c_X5_mayLay l B D K 12 v1 v2 v3 v4 (Or.inr (Or.inl rfl)) i_v1 i_v2 i_v3 i_v4 M hM _ hf) yv_X5_mayLay wm_X11_372 okX5.1 (sh_X5 (Or.inr (Or.inl rfl))) rfl ⟨Nat.le_of_ble_eq_true rfl, Nat.le_of_ble_eq_true rfl, Nat.le_of_ble_eq_true rfl, Nat.le_of_ble_eq_true rfl⟩ rfl (Nat.le_of_ble_eq_true rfl) dX11_add_9 ?_
  rintro r_1 M_2 h_r_1 - ⟨rfl, hf⟩
  refine g_if_ne hC 21 (zi_ h_r_1) dX11_add_12 rfl (fun c_9 => ?_) (fun c_9 => ?_)
  · replace hf := hf.1 c_9
    refine g_aload_n hC 0 dX11_add_21 rfl rfl ?_
    refine g_callVV hC (sk := []) [] (c_X11_beginAct l B D K   M hM _ hf) yv_X11_beginAct wm_X11_376 okX11.1 sc0 rfl ⟨Nat.le_of_ble_eq_true rfl, Nat.le_of_ble_eq_true rfl, Nat.le_of_ble_eq_true rfl, Nat.le_of_ble_eq_true rfl⟩ rfl (Nat.le_of_ble_eq_true rfl) dX11_add_22 ?_
    intro M_3 h_M_3 hf
    refine g_aload_n hC 0 dX11_add_25 rfl rfl ?_
    refine g_getr hC okX11 sc0 2 (by decide) rfl wf_X11_28 dX11_add_26 ?_
    refine g_iload_n hC 1 dX11_add_29 rfl rfl ?_
    refine g_iload_n hC 2 dX11_add_30 rfl rfl ?_
    refine g_iload_n hC 3 dX11_add_31 rfl rfl ?_
    refine g_iload hC 4 dX11_add_32 rfl ?_
    refine g_iconst hC dX11_add_34 ?_
    refine g_callVV hC (sk := []) [J v1, J v2, J v3, J v4, J (-1)] (c_X5_lay l B D K 12 v1 v2 v3 v4 (-1) (Or.inr (Or.inl rfl)) i_v1 i_v2 i_v3 i_v4 (by unfold inR; omega) M_3 h_M_3 _ hf) yv_X5_lay wm_X11_379 okX5.1 (sh_X5 (Or.inr (Or.inl rfl))) rfl ⟨Nat.le_of_ble_eq_true rfl, Nat.le_of_ble_eq_true rfl, Nat.le_of_ble_eq_true rfl, Nat.le_of_ble_eq_true rfl⟩ rfl (Nat.le_of_ble_eq_true rfl) dX11_add_35 ?_
    intro M_4 h_M_4 hf
    refine g_aload_n hC 0 dX11_add_38 rfl rfl ?_
    refine g_callVV hC (sk := []) [] (c_X11_endAct l B D K   M_4 h_M_4 _ hf) yv_X11_endAct wm_X11_383 okX11.1 sc0 rfl ⟨Nat.le_of_ble_eq_true rfl, Nat.le_of_ble_eq_true rfl, Nat.le_of_ble_eq_true rfl, Nat.le_of_ble_eq_true rfl⟩ rfl (Nat.le_of_ble_eq_true rfl) dX11_add_39 ?_
    intro M_5 h_M_5 hf
    refine g_aload_n hC 0 dX11_add_42 rfl rfl ?_
    refine g_getr hC okX11 sc0 2 (by decide) rfl wf_X11_28 dX11_add_43 ?_
    refine g_geti hC okX5 (sh_X5 (Or.inr (Or.inl rfl))) 1 (by decide) rfl wf_X11_147 dX11_add_46 ?_
    refine g_iconst hC dX11_add_49 ?_
    refine g_isub hC dX11_add_50 ?_
    obtain ⟨q_6, hf⟩ := hf
    exact g_reti hC q_6 h_M_5 hf dX11_add_51
  · replace hf := hf.2 c_9
    refine g_aload_n hC 0 dX11_add_15 rfl rfl ?_
    refine g_iconst hC dX11_add_16 ?_
    refine g_callVI hC (sk := []) [J 2] (c_X11_refuse l B D K 2 (by unfold inR; omega) M hM _ hf) yv_X11_refuse wm_X11_105 okX11.1 sc0 rfl ⟨Nat.le_of_ble_eq_true rfl, Nat.le_of_ble_eq_true rfl, Nat.le_of_ble_eq_true rfl, Nat.le_of_ble_eq_true rfl⟩ rfl (Nat.le_of_ble_eq_true rfl) dX11_add_17 ?_
    intro r_7 M_8 h_r_7 h_M_8 hf
    exact g_reti hC h_r_7 h_M_8 hf dX11_add_20
set_option maxHeartbeats 4000000 in
set_option maxRecDepth 100000 in
theorem c_X11_drop (l : Launch) (B : Nat) (D : va_G) (K : Nat → ClassId) (v1 : Int) (i_v1 : inR v1) (M : Mem) (hM : MR M) (Q : Int → Mem → Prop) (hf : f_X11_drop v1 M Q) : CtZ l yX11_drop cX11_drop 2 6 153 B D K [.ref (B + 0), J v1] M Q := by
  refine ct_z (by decide) (Nat.le_of_ble_eq_true rfl) ?_
  intro p e s m args below meth c hC
  have hC : Cx p s m args meth c D K cX11_drop 2 RX11 (some .boolean) := hC
  unfold f_X11_drop at hf
  refine (show G p l e (rmF 6 153) s m args below meth c B D K 2 0 0 (ZZ below args s B D K Q) M 0 [(0, .ref (B + 0)), (1, J v1)] [] from ?_)
  refine g_aload_n hC 0 dX11_drop_0 rfl rfl ?_
  refine g_getr hC okX11 sc0 2 (by decide) rfl wf_X11_28 dX11_drop_1 ?_
  refine g_iload_n hC 1 dX11_drop_4 rfl rfl ?_
  refine g_callVZ hC (sk := []) [J v1] (c_X5_isReach l B D K 12 v1 (Or.inr (Or.inl rfl)) i_v1 M hM _ hf) yv_X5_isReach wm_X11_193 okX5.1 (sh_X5 (Or.inr (Or.inl rfl))) rfl ⟨Nat.le_of_ble_eq_true rfl, Nat.le_of_ble_eq_true rfl, Nat.le_of_ble_eq_true rfl, Nat.le_of_ble_eq_true rfl⟩ rfl (Nat.le_of_ble_eq_true rfl) dX11_drop_5 ?_
  rintro r_1 M_2 h_r_1 - ⟨rfl, hf⟩
  refine g_if_ne hC 19 (zi_ h_r_1) dX11_drop_8 rfl (fun c_8 => ?_) (fun c_8 => ?_)
  · replace hf := hf.1 c_8
    refine g_aload_n hC 0 dX11_drop_19 rfl rfl ?_
    refine g_callVV hC (sk := []) [] (c_X11_beginAct l B D K   M hM _ hf) yv_X11_beginAct wm_X11_376 okX11.1 sc0 rfl ⟨Nat.le_of_ble_eq_true rfl, Nat.le_of_ble_eq_true rfl, Nat.le_of_ble_eq_true rfl, Nat.le_of_ble_eq_true rfl⟩ rfl (Nat.le_of_ble_eq_true rfl) dX11_drop_20 ?_
    intro M_3 h_M_3 hf
    refine g_aload_n hC 0 dX11_drop_23 rfl rfl ?_
    refine g_getr hC okX11 sc0 2 (by decide) rfl wf_X11_28 dX11_drop_24 ?_
    refine g_iload_n hC 1 dX11_drop_27 rfl rfl ?_
    refine g_callVV hC (sk := []) [J v1] (c_X5_take l B D K 12 v1 (Or.inr (Or.inl rfl)) i_v1 M_3 h_M_3 _ hf) yv_X5_take wm_X11_386 okX5.1 (sh_X5 (Or.inr (Or.inl rfl))) rfl ⟨Nat.le_of_ble_eq_true rfl, Nat.le_of_ble_eq_true rfl, Nat.le_of_ble_eq_true rfl, Nat.le_of_ble_eq_true rfl⟩ rfl (Nat.le_of_ble_eq_true rfl) dX11_drop_28 ?_
    intro M_4 h_M_4 hf
    refine g_aload_n hC 0 dX11_drop_31 rfl rfl ?_
    refine g_callVV hC (sk := []) [] (c_X11_endAct l B D K   M_4 h_M_4 _ hf) yv_X11_endAct wm_X11_383 okX11.1 sc0 rfl ⟨Nat.le_of_ble_eq_true rfl, Nat.le_of_ble_eq_true rfl, Nat.le_of_ble_eq_true rfl, Nat.le_of_ble_eq_true rfl⟩ rfl (Nat.le_of_ble_eq_true rfl) dX11_drop_32 ?_
    intro M_5 h_M_5 hf
    refine g_iconst hC dX11_drop_35 ?_
    exact g_retz hC (Or.inr rfl) h_M_5 hf dX11_drop_36
  · replace hf := hf.2 c_8
    refine g_aload_n hC 0 dX11_drop_11 rfl rfl ?_
    refine g_iconst hC dX11_drop_12 ?_
    refine g_callVI hC (sk := []) [J 2] (c_X11_refuse l B D K 2 (by unfold inR; omega) M hM _ hf) yv_X11_refuse wm_X11_105 okX11.1 sc0 rfl ⟨Nat.le_of_ble_eq_true rfl, Nat.le_of_ble_eq_true rfl, Nat.le_of_ble_eq_true rfl, Nat.le_of_ble_eq_true rfl⟩ rfl (Nat.le_of_ble_eq_true rfl) dX11_drop_13 ?_
    intro r_6 M_7 h_r_6 h_M_7 hf
    refine g_pop hC dX11_drop_16 rfl ?_
    refine g_iconst hC dX11_drop_17 ?_
    exact g_retz hC (Or.inl rfl) h_M_7 hf dX11_drop_18
set_option maxHeartbeats 4000000 in
set_option maxRecDepth 100000 in
theorem c_X11_splitReach (l : Launch) (B : Nat) (D : va_G) (K : Nat → ClassId) (v1 : Int) (v2 : Int) (i_v1 : inR v1) (i_v2 : inR v2) (M : Mem) (hM : MR M) (Q : Mem → Prop) (hf : f_X11_splitReach v1 v2 M Q) : CtV l yX11_splitReach cX11_splitReach 3 2 48 B D K [.ref (B + 0), J v1, J v2] M Q := by
  refine ct_v (by decide) (Nat.le_of_ble_eq_true rfl) ?_
  intro p e s m args below meth c hC
  have hC : Cx p s m args meth c D K cX11_splitReach 3 RX11 none := hC
  unfold f_X11_splitReach at hf
  refine (show G p l e (rmF 2 48) s m args below meth c B D K 3 0 0 (ZV below args s B D K Q) M 0 [(0, .ref (B + 0)), (1, J v1), (2, J v2)] [] from ?_)
  refine g_aload_n hC 0 dX11_splitReach_0 rfl rfl ?_
  refine g_getr hC okX11 sc0 2 (by decide) rfl wf_X11_28 dX11_splitReach_1 ?_
  refine g_iload_n hC 1 dX11_splitReach_4 rfl rfl ?_
  refine g_iload_n hC 2 dX11_splitReach_5 rfl rfl ?_
  refine g_callVV hC (sk := []) [J v1, J v2] (c_X5_split l B D K 12 v1 v2 (Or.inr (Or.inl rfl)) i_v1 i_v2 M hM _ hf) yv_X5_split wm_X11_456 okX5.1 (sh_X5 (Or.inr (Or.inl rfl))) rfl ⟨Nat.le_of_ble_eq_true rfl, Nat.le_of_ble_eq_true rfl, Nat.le_of_ble_eq_true rfl, Nat.le_of_ble_eq_true rfl⟩ rfl (Nat.le_of_ble_eq_true rfl) dX11_splitReach_6 ?_
  intro M_1 h_M_1 hf
  refine g_aload_n hC 0 dX11_splitReach_9 rfl rfl ?_
  refine g_getr hC okX11 sc0 3 (by decide) rfl wf_X11_32 dX11_splitReach_10 ?_
  refine g_aload_n hC 0 dX11_splitReach_13 rfl rfl ?_
  refine g_getr hC okX11 sc0 2 (by decide) rfl wf_X11_28 dX11_splitReach_14 ?_
  refine g_geti hC okX5 (sh_X5 (Or.inr (Or.inl rfl))) 0 (by decide) rfl wf_X11_156 dX11_splitReach_17 ?_
  refine g_iconst hC dX11_splitReach_20 ?_
  refine g_isub hC dX11_splitReach_21 ?_
  refine g_iconst hC dX11_splitReach_22 ?_
  obtain ⟨q_2, hf⟩ := hf
  refine g_iastk (((M_1 12 0) - 1).toNat) hC sc18 q_2.1 q_2.2 rfl dX11_splitReach_23 ?_
  refine g_nmM (fun M_3 e_M_3 => ?_)
  replace hf := hf M_3 e_M_3
  have h_M_3 : MR M_3 := by rw [e_M_3]; exact MR_st h_M_1 (by unfold inR; omega)
  exact g_retv hC h_M_3 hf dX11_splitReach_24
set_option maxHeartbeats 4000000 in
set_option maxRecDepth 100000 in
theorem c_X11_cut (l : Launch) (B : Nat) (D : va_G) (K : Nat → ClassId) (v1 : Int) (v2 : Int) (i_v1 : inR v1) (i_v2 : inR v2) (M : Mem) (hM : MR M) (Q : Int → Mem → Prop) (hf : f_X11_cut v1 v2 M Q) : CtI l yX11_cut cX11_cut 3 6 153 B D K [.ref (B + 0), J v1, J v2] M Q := by
  refine ct_i (by decide) (Nat.le_of_ble_eq_true rfl) ?_
  intro p e s m args below meth c hC
  have hC : Cx p s m args meth c D K cX11_cut 3 RX11 (some .int) := hC
  unfold f_X11_cut at hf
  refine (show G p l e (rmF 6 153) s m args below meth c B D K 3 0 0 (ZI below args s B D K Q) M 0 [(0, .ref (B + 0)), (1, J v1), (2, J v2)] [] from ?_)
  refine g_aload_n hC 0 dX11_cut_0 rfl rfl ?_
  refine g_getr hC okX11 sc0 2 (by decide) rfl wf_X11_28 dX11_cut_1 ?_
  refine g_iload_n hC 1 dX11_cut_4 rfl rfl ?_
  refine g_iload_n hC 2 dX11_cut_5 rfl rfl ?_
  refine g_callVZ hC (sk := []) [J v1, J v2] (c_X5_maySplit l B D K 12 v1 v2 (Or.inr (Or.inl rfl)) i_v1 i_v2 M hM _ hf) yv_X5_maySplit wm_X11_388 okX5.1 (sh_X5 (Or.inr (Or.inl rfl))) rfl ⟨Nat.le_of_ble_eq_true rfl, Nat.le_of_ble_eq_true rfl, Nat.le_of_ble_eq_true rfl, Nat.le_of_ble_eq_true rfl⟩ rfl (Nat.le_of_ble_eq_true rfl) dX11_cut_6 ?_
  rintro r_1 M_2 h_r_1 - ⟨rfl, hf⟩
  refine g_if_ne hC 18 (zi_ h_r_1) dX11_cut_9 rfl (fun c_9 => ?_) (fun c_9 => ?_)
  · replace hf := hf.1 c_9
    refine g_aload_n hC 0 dX11_cut_18 rfl rfl ?_
    refine g_callVV hC (sk := []) [] (c_X11_beginAct l B D K   M hM _ hf) yv_X11_beginAct wm_X11_376 okX11.1 sc0 rfl ⟨Nat.le_of_ble_eq_true rfl, Nat.le_of_ble_eq_true rfl, Nat.le_of_ble_eq_true rfl, Nat.le_of_ble_eq_true rfl⟩ rfl (Nat.le_of_ble_eq_true rfl) dX11_cut_19 ?_
    intro M_3 h_M_3 hf
    refine g_aload_n hC 0 dX11_cut_22 rfl rfl ?_
    refine g_iload_n hC 1 dX11_cut_23 rfl rfl ?_
    refine g_iload_n hC 2 dX11_cut_24 rfl rfl ?_
    refine g_callVV hC (sk := []) [J v1, J v2] (c_X11_splitReach l B D K v1 v2 i_v1 i_v2 M_3 h_M_3 _ hf) yv_X11_splitReach wm_X11_392 okX11.1 sc0 rfl ⟨Nat.le_of_ble_eq_true rfl, Nat.le_of_ble_eq_true rfl, Nat.le_of_ble_eq_true rfl, Nat.le_of_ble_eq_true rfl⟩ rfl (Nat.le_of_ble_eq_true rfl) dX11_cut_25 ?_
    intro M_4 h_M_4 hf
    refine g_aload_n hC 0 dX11_cut_28 rfl rfl ?_
    refine g_callVV hC (sk := []) [] (c_X11_endAct l B D K   M_4 h_M_4 _ hf) yv_X11_endAct wm_X11_383 okX11.1 sc0 rfl ⟨Nat.le_of_ble_eq_true rfl, Nat.le_of_ble_eq_true rfl, Nat.le_of_ble_eq_true rfl, Nat.le_of_ble_eq_true rfl⟩ rfl (Nat.le_of_ble_eq_true rfl) dX11_cut_29 ?_
    intro M_5 h_M_5 hf
    refine g_aload_n hC 0 dX11_cut_32 rfl rfl ?_
    refine g_getr hC okX11 sc0 2 (by decide) rfl wf_X11_28 dX11_cut_33 ?_
    refine g_geti hC okX5 (sh_X5 (Or.inr (Or.inl rfl))) 0 (by decide) rfl wf_X11_156 dX11_cut_36 ?_
    refine g_iconst hC dX11_cut_39 ?_
    refine g_isub hC dX11_cut_40 ?_
    obtain ⟨q_6, hf⟩ := hf
    exact g_reti hC q_6 h_M_5 hf dX11_cut_41
  · replace hf := hf.2 c_9
    refine g_aload_n hC 0 dX11_cut_12 rfl rfl ?_
    refine g_iconst hC dX11_cut_13 ?_
    refine g_callVI hC (sk := []) [J 2] (c_X11_refuse l B D K 2 (by unfold inR; omega) M hM _ hf) yv_X11_refuse wm_X11_105 okX11.1 sc0 rfl ⟨Nat.le_of_ble_eq_true rfl, Nat.le_of_ble_eq_true rfl, Nat.le_of_ble_eq_true rfl, Nat.le_of_ble_eq_true rfl⟩ rfl (Nat.le_of_ble_eq_true rfl) dX11_cut_14 ?_
    intro r_7 M_8 h_r_7 h_M_8 hf
    exact g_reti hC h_r_7 h_M_8 hf dX11_cut_17
set_option maxHeartbeats 4000000 in
set_option maxRecDepth 100000 in
theorem c_X11_turn (l : Launch) (B : Nat) (D : va_G) (K : Nat → ClassId) (v1 : Int) (i_v1 : inR v1) (M : Mem) (hM : MR M) (Q : Int → Mem → Prop) (hf : f_X11_turn v1 M Q) : CtZ l yX11_turn cX11_turn 2 6 153 B D K [.ref (B + 0), J v1] M Q := by
  refine ct_z (by decide) (Nat.le_of_ble_eq_true rfl) ?_
  intro p e s m args below meth c hC
  have hC : Cx p s m args meth c D K cX11_turn 2 RX11 (some .boolean) := hC
  unfold f_X11_turn at hf
  refine (show G p l e (rmF 6 153) s m args below meth c B D K 2 0 0 (ZZ below args s B D K Q) M 0 [(0, .ref (B + 0)), (1, J v1)] [] from ?_)
  refine g_aload_n hC 0 dX11_turn_0 rfl rfl ?_
  refine g_getr hC okX11 sc0 2 (by decide) rfl wf_X11_28 dX11_turn_1 ?_
  refine g_iload_n hC 1 dX11_turn_4 rfl rfl ?_
  refine g_callVZ hC (sk := []) [J v1] (c_X5_isReach l B D K 12 v1 (Or.inr (Or.inl rfl)) i_v1 M hM _ hf) yv_X5_isReach wm_X11_193 okX5.1 (sh_X5 (Or.inr (Or.inl rfl))) rfl ⟨Nat.le_of_ble_eq_true rfl, Nat.le_of_ble_eq_true rfl, Nat.le_of_ble_eq_true rfl, Nat.le_of_ble_eq_true rfl⟩ rfl (Nat.le_of_ble_eq_true rfl) dX11_turn_5 ?_
  rintro r_1 M_2 h_r_1 - ⟨rfl, hf⟩
  refine jn_elim (fun (k : Mem → Prop) => ∀ (M_3 : Mem), k M_3 → (MR M_3) → G p l e (rmF 6 153) s m args below meth c B D K 2 0 0 (ZZ below args s B D K Q) M_3 22 [(0, .ref (B + 0))] []) hf ?_ ?_
  · intro M_3 hf h_M_3
    refine g_aload_n hC 0 dX11_turn_22 rfl rfl ?_
    refine g_iconst hC dX11_turn_23 ?_
    refine g_callVI hC (sk := []) [J 3] (c_X11_refuse l B D K 3 (by unfold inR; omega) M_3 h_M_3 _ hf) yv_X11_refuse wm_X11_105 okX11.1 sc0 rfl ⟨Nat.le_of_ble_eq_true rfl, Nat.le_of_ble_eq_true rfl, Nat.le_of_ble_eq_true rfl, Nat.le_of_ble_eq_true rfl⟩ rfl (Nat.le_of_ble_eq_true rfl) dX11_turn_24 ?_
    intro r_4 M_5 h_r_4 h_M_5 hf
    refine g_pop hC dX11_turn_27 rfl ?_
    refine g_iconst hC dX11_turn_28 ?_
    exact g_retz hC (Or.inl rfl) h_M_5 hf dX11_turn_29
  · intro J22 hJ22 hf
    refine g_if_eq hC 22 (zi_ h_r_1) dX11_turn_8 rfl (fun c_12 => ?_) (fun c_12 => ?_)
    · replace hf := hf.1 c_12
      refine g_sub [(0, .ref (B + 0))] [0] rfl ?_
      exact hJ22 M hf hM
    · replace hf := hf.2 c_12
      refine g_aload_n hC 0 dX11_turn_11 rfl rfl ?_
      refine g_getr hC okX11 sc0 2 (by decide) rfl wf_X11_28 dX11_turn_12 ?_
      refine g_iload_n hC 1 dX11_turn_15 rfl rfl ?_
      refine g_callVZ hC (sk := []) [J v1] (c_X5_mayReverse l B D K 12 v1 (Or.inr (Or.inl rfl)) i_v1 M hM _ hf) yv_X5_mayReverse wm_X11_314 okX5.1 (sh_X5 (Or.inr (Or.inl rfl))) rfl ⟨Nat.le_of_ble_eq_true rfl, Nat.le_of_ble_eq_true rfl, Nat.le_of_ble_eq_true rfl, Nat.le_of_ble_eq_true rfl⟩ rfl (Nat.le_of_ble_eq_true rfl) dX11_turn_16 ?_
      rintro r_6 M_7 h_r_6 - ⟨rfl, hf⟩
      refine g_if_ne hC 30 (zi_ h_r_6) dX11_turn_19 rfl (fun c_11 => ?_) (fun c_11 => ?_)
      · replace hf := hf.1 c_11
        refine g_aload_n hC 0 dX11_turn_30 rfl rfl ?_
        refine g_callVV hC (sk := []) [] (c_X11_beginAct l B D K   M hM _ hf) yv_X11_beginAct wm_X11_376 okX11.1 sc0 rfl ⟨Nat.le_of_ble_eq_true rfl, Nat.le_of_ble_eq_true rfl, Nat.le_of_ble_eq_true rfl, Nat.le_of_ble_eq_true rfl⟩ rfl (Nat.le_of_ble_eq_true rfl) dX11_turn_31 ?_
        intro M_8 h_M_8 hf
        refine g_aload_n hC 0 dX11_turn_34 rfl rfl ?_
        refine g_getr hC okX11 sc0 2 (by decide) rfl wf_X11_28 dX11_turn_35 ?_
        refine g_iload_n hC 1 dX11_turn_38 rfl rfl ?_
        refine g_callVV hC (sk := []) [J v1] (c_X5_reverse l B D K 12 v1 (Or.inr (Or.inl rfl)) i_v1 M_8 h_M_8 _ hf) yv_X5_reverse wm_X11_317 okX5.1 (sh_X5 (Or.inr (Or.inl rfl))) rfl ⟨Nat.le_of_ble_eq_true rfl, Nat.le_of_ble_eq_true rfl, Nat.le_of_ble_eq_true rfl, Nat.le_of_ble_eq_true rfl⟩ rfl (Nat.le_of_ble_eq_true rfl) dX11_turn_39 ?_
        intro M_9 h_M_9 hf
        refine g_aload_n hC 0 dX11_turn_42 rfl rfl ?_
        refine g_callVV hC (sk := []) [] (c_X11_endAct l B D K   M_9 h_M_9 _ hf) yv_X11_endAct wm_X11_383 okX11.1 sc0 rfl ⟨Nat.le_of_ble_eq_true rfl, Nat.le_of_ble_eq_true rfl, Nat.le_of_ble_eq_true rfl, Nat.le_of_ble_eq_true rfl⟩ rfl (Nat.le_of_ble_eq_true rfl) dX11_turn_43 ?_
        intro M_10 h_M_10 hf
        refine g_iconst hC dX11_turn_46 ?_
        exact g_retz hC (Or.inr rfl) h_M_10 hf dX11_turn_47
      · replace hf := hf.2 c_11
        refine g_sub [(0, .ref (B + 0))] [0] rfl ?_
        exact hJ22 M hf hM
set_option maxHeartbeats 4000000 in
set_option maxRecDepth 100000 in
theorem c_X11_gives (l : Launch) (B : Nat) (D : va_G) (K : Nat → ClassId) (v1 : Int) (v2 : Int) (i_v1 : inR v1) (i_v2 : inR v2) (M : Mem) (hM : MR M) (Q : Int → Mem → Prop) (hf : f_X11_gives v1 v2 M Q) : CtZ l yX11_gives cX11_gives 3 6 153 B D K [.ref (B + 0), J v1, J v2] M Q := by
  refine ct_z (by decide) (Nat.le_of_ble_eq_true rfl) ?_
  intro p e s m args below meth c hC
  have hC : Cx p s m args meth c D K cX11_gives 3 RX11 (some .boolean) := hC
  unfold f_X11_gives at hf
  refine (show G p l e (rmF 6 153) s m args below meth c B D K 3 0 0 (ZZ below args s B D K Q) M 0 [(0, .ref (B + 0)), (1, J v1), (2, J v2)] [] from ?_)
  refine g_aload_n hC 0 dX11_gives_0 rfl rfl ?_
  refine g_getr hC okX11 sc0 2 (by decide) rfl wf_X11_28 dX11_gives_1 ?_
  refine g_iload_n hC 1 dX11_gives_4 rfl rfl ?_
  refine g_callVZ hC (sk := []) [J v1] (c_X5_isReach l B D K 12 v1 (Or.inr (Or.inl rfl)) i_v1 M hM _ hf) yv_X5_isReach wm_X11_193 okX5.1 (sh_X5 (Or.inr (Or.inl rfl))) rfl ⟨Nat.le_of_ble_eq_true rfl, Nat.le_of_ble_eq_true rfl, Nat.le_of_ble_eq_true rfl, Nat.le_of_ble_eq_true rfl⟩ rfl (Nat.le_of_ble_eq_true rfl) dX11_gives_5 ?_
  rintro r_1 M_2 h_r_1 - ⟨rfl, hf⟩
  refine jn_elim (fun (k : Mem → Prop) => ∀ (M_3 : Mem), k M_3 → (MR M_3) → G p l e (rmF 6 153) s m args below meth c B D K 3 0 0 (ZZ below args s B D K Q) M_3 34 [(0, .ref (B + 0))] []) hf ?_ ?_
  · intro M_3 hf h_M_3
    refine g_aload_n hC 0 dX11_gives_34 rfl rfl ?_
    refine g_iconst hC dX11_gives_35 ?_
    refine g_callVI hC (sk := []) [J 3] (c_X11_refuse l B D K 3 (by unfold inR; omega) M_3 h_M_3 _ hf) yv_X11_refuse wm_X11_105 okX11.1 sc0 rfl ⟨Nat.le_of_ble_eq_true rfl, Nat.le_of_ble_eq_true rfl, Nat.le_of_ble_eq_true rfl, Nat.le_of_ble_eq_true rfl⟩ rfl (Nat.le_of_ble_eq_true rfl) dX11_gives_36 ?_
    intro r_4 M_5 h_r_4 h_M_5 hf
    refine g_pop hC dX11_gives_39 rfl ?_
    refine g_iconst hC dX11_gives_40 ?_
    exact g_retz hC (Or.inl rfl) h_M_5 hf dX11_gives_41
  · intro J34 hJ34 hf
    refine g_if_eq hC 34 (zi_ h_r_1) dX11_gives_8 rfl (fun c_13 => ?_) (fun c_13 => ?_)
    · replace hf := hf.1 c_13
      refine g_sub [(0, .ref (B + 0))] [0] rfl ?_
      exact hJ34 M hf hM
    · replace hf := hf.2 c_13
      refine g_iload_n hC 2 dX11_gives_11 rfl rfl ?_
      refine g_if_lt hC 34 i_v2 dX11_gives_12 rfl (fun c_12 => ?_) (fun c_12 => ?_)
      · replace hf := hf.1 c_12
        refine g_sub [(0, .ref (B + 0))] [0] rfl ?_
        exact hJ34 M hf hM
      · replace hf := hf.2 c_12
        refine g_iload_n hC 2 dX11_gives_15 rfl rfl ?_
        refine g_bipush hC dX11_gives_16 (by decide) ?_
        refine g_icmp_gt hC 34 i_v2 (by unfold inR; omega) dX11_gives_18 rfl (fun c_11 => ?_) (fun c_11 => ?_)
        · replace hf := hf.1 c_11
          refine g_sub [(0, .ref (B + 0))] [0] rfl ?_
          exact hJ34 M hf hM
        · replace hf := hf.2 c_11
          refine g_aload_n hC 0 dX11_gives_21 rfl rfl ?_
          refine g_getr hC okX11 sc0 2 (by decide) rfl wf_X11_28 dX11_gives_22 ?_
          refine g_getr hC okX5 (sh_X5 (Or.inr (Or.inl rfl))) 5 (by decide) rfl wf_X11_206 dX11_gives_25 ?_
          refine g_iload_n hC 1 dX11_gives_28 rfl rfl ?_
          obtain ⟨q_6, hf⟩ := hf
          refine g_ialdk (v1.toNat) hC (sh_X5_5 (Or.inr (Or.inl rfl))) q_6.1 q_6.2 rfl dX11_gives_29 ?_
          refine g_iload_n hC 2 dX11_gives_30 rfl rfl ?_
          refine g_icmp_ne hC 42 (hM _ _) i_v2 dX11_gives_31 rfl (fun c_10 => ?_) (fun c_10 => ?_)
          · replace hf := hf.1 c_10
            refine g_aload_n hC 0 dX11_gives_42 rfl rfl ?_
            refine g_callVV hC (sk := []) [] (c_X11_beginAct l B D K   M hM _ hf) yv_X11_beginAct wm_X11_376 okX11.1 sc0 rfl ⟨Nat.le_of_ble_eq_true rfl, Nat.le_of_ble_eq_true rfl, Nat.le_of_ble_eq_true rfl, Nat.le_of_ble_eq_true rfl⟩ rfl (Nat.le_of_ble_eq_true rfl) dX11_gives_43 ?_
            intro M_7 h_M_7 hf
            refine g_aload_n hC 0 dX11_gives_46 rfl rfl ?_
            refine g_getr hC okX11 sc0 2 (by decide) rfl wf_X11_28 dX11_gives_47 ?_
            refine g_getr hC okX5 (sh_X5 (Or.inr (Or.inl rfl))) 5 (by decide) rfl wf_X11_206 dX11_gives_50 ?_
            refine g_iload_n hC 1 dX11_gives_53 rfl rfl ?_
            refine g_iload_n hC 2 dX11_gives_54 rfl rfl ?_
            refine g_iastk (v1.toNat) hC (sh_X5_5 (Or.inr (Or.inl rfl))) q_6.1 q_6.2 rfl dX11_gives_55 ?_
            refine g_nmM (fun M_8 e_M_8 => ?_)
            replace hf := hf M_8 e_M_8
            have h_M_8 : MR M_8 := by rw [e_M_8]; exact MR_st h_M_7 i_v2
            refine g_aload_n hC 0 dX11_gives_56 rfl rfl ?_
            refine g_callVV hC (sk := []) [] (c_X11_endAct l B D K   M_8 h_M_8 _ hf) yv_X11_endAct wm_X11_383 okX11.1 sc0 rfl ⟨Nat.le_of_ble_eq_true rfl, Nat.le_of_ble_eq_true rfl, Nat.le_of_ble_eq_true rfl, Nat.le_of_ble_eq_true rfl⟩ rfl (Nat.le_of_ble_eq_true rfl) dX11_gives_57 ?_
            intro M_9 h_M_9 hf
            refine g_iconst hC dX11_gives_60 ?_
            exact g_retz hC (Or.inr rfl) h_M_9 hf dX11_gives_61
          · replace hf := hf.2 c_10
            refine g_sub [(0, .ref (B + 0))] [0] rfl ?_
            exact hJ34 M hf hM
set_option maxHeartbeats 4000000 in
set_option maxRecDepth 100000 in
theorem c_X11_call (l : Launch) (B : Nat) (D : va_G) (K : Nat → ClassId) (v1 : Int) (v2 : Int) (i_v1 : inR v1) (i_v2 : inR v2) (M : Mem) (hM : MR M) (Q : Int → Mem → Prop) (hf : f_X11_call v1 v2 M Q) : CtZ l yX11_call cX11_call 3 6 153 B D K [.ref (B + 0), J v1, J v2] M Q := by
  refine ct_z (by decide) (Nat.le_of_ble_eq_true rfl) ?_
  intro p e s m args below meth c hC
  have hC : Cx p s m args meth c D K cX11_call 3 RX11 (some .boolean) := hC
  unfold f_X11_call at hf
  refine (show G p l e (rmF 6 153) s m args below meth c B D K 3 0 0 (ZZ below args s B D K Q) M 0 [(0, .ref (B + 0)), (1, J v1), (2, J v2)] [] from ?_)
  refine g_aload_n hC 0 dX11_call_0 rfl rfl ?_
  refine g_getr hC okX11 sc0 2 (by decide) rfl wf_X11_28 dX11_call_1 ?_
  refine g_iload_n hC 1 dX11_call_4 rfl rfl ?_
  refine g_callVZ hC (sk := []) [J v1] (c_X5_isReach l B D K 12 v1 (Or.inr (Or.inl rfl)) i_v1 M hM _ hf) yv_X5_isReach wm_X11_193 okX5.1 (sh_X5 (Or.inr (Or.inl rfl))) rfl ⟨Nat.le_of_ble_eq_true rfl, Nat.le_of_ble_eq_true rfl, Nat.le_of_ble_eq_true rfl, Nat.le_of_ble_eq_true rfl⟩ rfl (Nat.le_of_ble_eq_true rfl) dX11_call_5 ?_
  rintro r_1 M_2 h_r_1 - ⟨rfl, hf⟩
  refine jn_elim (fun (k : Mem → Prop) => ∀ (M_3 : Mem), k M_3 → (MR M_3) → G p l e (rmF 6 153) s m args below meth c B D K 3 0 0 (ZZ below args s B D K Q) M_3 37 [(0, .ref (B + 0))] []) hf ?_ ?_
  · intro M_3 hf h_M_3
    refine g_aload_n hC 0 dX11_call_37 rfl rfl ?_
    refine g_iconst hC dX11_call_38 ?_
    refine g_callVI hC (sk := []) [J 3] (c_X11_refuse l B D K 3 (by unfold inR; omega) M_3 h_M_3 _ hf) yv_X11_refuse wm_X11_105 okX11.1 sc0 rfl ⟨Nat.le_of_ble_eq_true rfl, Nat.le_of_ble_eq_true rfl, Nat.le_of_ble_eq_true rfl, Nat.le_of_ble_eq_true rfl⟩ rfl (Nat.le_of_ble_eq_true rfl) dX11_call_39 ?_
    intro r_4 M_5 h_r_4 h_M_5 hf
    refine g_pop hC dX11_call_42 rfl ?_
    refine g_iconst hC dX11_call_43 ?_
    exact g_retz hC (Or.inl rfl) h_M_5 hf dX11_call_44
  · intro J37 hJ37 hf
    refine g_if_eq hC 37 (zi_ h_r_1) dX11_call_8 rfl (fun c_13 => ?_) (fun c_13 => ?_)
    · replace hf := hf.1 c_13
      refine g_sub [(0, .ref (B + 0))] [0] rfl ?_
      exact hJ37 M hf hM
    · replace hf := hf.2 c_13
      refine g_iload_n hC 2 dX11_call_11 rfl rfl ?_
      refine g_iconst hC dX11_call_12 ?_
      refine g_icmp_lt hC 37 i_v2 (by unfold inR; omega) dX11_call_13 rfl (fun c_12 => ?_) (fun c_12 => ?_)
      · replace hf := hf.1 c_12
        refine g_sub [(0, .ref (B + 0))] [0] rfl ?_
        exact hJ37 M hf hM
      · replace hf := hf.2 c_12
        refine g_iload_n hC 2 dX11_call_16 rfl rfl ?_
        refine g_aload_n hC 0 dX11_call_17 rfl rfl ?_
        refine g_geti hC okX11 sc0 5 (by decide) rfl wf_X11_137 dX11_call_18 ?_
        refine g_icmp_ge hC 37 i_v2 (hM _ _) dX11_call_21 rfl (fun c_11 => ?_) (fun c_11 => ?_)
        · replace hf := hf.1 c_11
          refine g_sub [(0, .ref (B + 0))] [0] rfl ?_
          exact hJ37 M hf hM
        · replace hf := hf.2 c_11
          refine g_aload_n hC 0 dX11_call_24 rfl rfl ?_
          refine g_getr hC okX11 sc0 2 (by decide) rfl wf_X11_28 dX11_call_25 ?_
          refine g_getr hC okX5 (sh_X5 (Or.inr (Or.inl rfl))) 6 (by decide) rfl wf_X11_209 dX11_call_28 ?_
          refine g_iload_n hC 1 dX11_call_31 rfl rfl ?_
          obtain ⟨q_6, hf⟩ := hf
          refine g_ialdk (v1.toNat) hC (sh_X5_6 (Or.inr (Or.inl rfl))) q_6.1 q_6.2 rfl dX11_call_32 ?_
          refine g_iload_n hC 2 dX11_call_33 rfl rfl ?_
          refine g_icmp_ne hC 45 (hM _ _) i_v2 dX11_call_34 rfl (fun c_10 => ?_) (fun c_10 => ?_)
          · replace hf := hf.1 c_10
            refine g_aload_n hC 0 dX11_call_45 rfl rfl ?_
            refine g_callVV hC (sk := []) [] (c_X11_beginAct l B D K   M hM _ hf) yv_X11_beginAct wm_X11_376 okX11.1 sc0 rfl ⟨Nat.le_of_ble_eq_true rfl, Nat.le_of_ble_eq_true rfl, Nat.le_of_ble_eq_true rfl, Nat.le_of_ble_eq_true rfl⟩ rfl (Nat.le_of_ble_eq_true rfl) dX11_call_46 ?_
            intro M_7 h_M_7 hf
            refine g_aload_n hC 0 dX11_call_49 rfl rfl ?_
            refine g_getr hC okX11 sc0 2 (by decide) rfl wf_X11_28 dX11_call_50 ?_
            refine g_getr hC okX5 (sh_X5 (Or.inr (Or.inl rfl))) 6 (by decide) rfl wf_X11_209 dX11_call_53 ?_
            refine g_iload_n hC 1 dX11_call_56 rfl rfl ?_
            refine g_iload_n hC 2 dX11_call_57 rfl rfl ?_
            refine g_iastk (v1.toNat) hC (sh_X5_6 (Or.inr (Or.inl rfl))) q_6.1 q_6.2 rfl dX11_call_58 ?_
            refine g_nmM (fun M_8 e_M_8 => ?_)
            replace hf := hf M_8 e_M_8
            have h_M_8 : MR M_8 := by rw [e_M_8]; exact MR_st h_M_7 i_v2
            refine g_aload_n hC 0 dX11_call_59 rfl rfl ?_
            refine g_callVV hC (sk := []) [] (c_X11_endAct l B D K   M_8 h_M_8 _ hf) yv_X11_endAct wm_X11_383 okX11.1 sc0 rfl ⟨Nat.le_of_ble_eq_true rfl, Nat.le_of_ble_eq_true rfl, Nat.le_of_ble_eq_true rfl, Nat.le_of_ble_eq_true rfl⟩ rfl (Nat.le_of_ble_eq_true rfl) dX11_call_60 ?_
            intro M_9 h_M_9 hf
            refine g_iconst hC dX11_call_63 ?_
            exact g_retz hC (Or.inr rfl) h_M_9 hf dX11_call_64
          · replace hf := hf.2 c_10
            refine g_sub [(0, .ref (B + 0))] [0] rfl ?_
            exact hJ37 M hf hM
set_option maxHeartbeats 4000000 in
set_option maxRecDepth 100000 in
theorem c_X11_draw (l : Launch) (B : Nat) (D : va_G) (K : Nat → ClassId) (v1 : Int) (i_v1 : inR v1) (M : Mem) (hM : MR M) (Q : Int → Mem → Prop) (hf : f_X11_draw v1 M Q) : CtI l yX11_draw cX11_draw 2 0 0 B D K [.ref (B + 0), J v1] M Q := by
  refine ct_i (by decide) (Nat.le_of_ble_eq_true rfl) ?_
  intro p e s m args below meth c hC
  have hC : Cx p s m args meth c D K cX11_draw 2 RX11 (some .int) := hC
  unfold f_X11_draw at hf
  refine (show G p l e (rmF 0 0) s m args below meth c B D K 2 0 0 (ZI below args s B D K Q) M 0 [(0, .ref (B + 0)), (1, J v1)] [] from ?_)
  refine g_aload_n hC 0 dX11_draw_0 rfl rfl ?_
  refine g_ldcw (n := 1103515245) hC wc_X11_459 (by decide) dX11_draw_1 ?_
  refine g_aload_n hC 0 dX11_draw_4 rfl rfl ?_
  refine g_geti hC okX11 sc0 16 (by decide) rfl wf_X11_97 dX11_draw_5 ?_
  refine g_imul hC dX11_draw_8 ?_
  refine g_sipush hC dX11_draw_9 (by decide) ?_
  refine g_iadd hC dX11_draw_12 ?_
  refine g_ldcw (n := 2147483647) hC wc_X11_460 (by decide) dX11_draw_13 ?_
  refine g_iand hC dX11_draw_16 ?_
  refine g_puti hC okX11 tnX11 sc0 16 (by decide) rfl rfl (by decide) wf_X11_97 dX11_draw_17 ?_
  refine g_nmM (fun M_1 e_M_1 => ?_)
  replace hf := hf M_1 e_M_1
  have h_M_1 : MR M_1 := by rw [e_M_1]; exact MR_st hM (bAnd_in _ _)
  refine g_iload_n hC 1 dX11_draw_20 rfl rfl ?_
  refine g_if_le hC 36 i_v1 dX11_draw_21 rfl (fun c_4 => ?_) (fun c_4 => ?_)
  · replace hf := hf.1 c_4
    refine g_iconst hC dX11_draw_36 ?_
    exact g_reti hC (by unfold inR; omega) h_M_1 hf dX11_draw_37
  · replace hf := hf.2 c_4
    refine g_aload_n hC 0 dX11_draw_24 rfl rfl ?_
    refine g_geti hC okX11 sc0 16 (by decide) rfl wf_X11_97 dX11_draw_25 ?_
    refine g_bipush hC dX11_draw_28 (by decide) ?_
    refine g_idiv hC (h_M_1 _ _) (by unfold inR; omega) (by decide) dX11_draw_30 ?_
    refine g_iload_n hC 1 dX11_draw_31 rfl rfl ?_
    obtain ⟨q_2, hf⟩ := hf
    refine g_irem hC (tdiv_in (h_M_1 _ _) (by decide)) i_v1 q_2 dX11_draw_32 ?_
    refine g_goto hC 37 dX11_draw_33 rfl ?_
    obtain ⟨q_3, hf⟩ := hf
    exact g_reti hC q_3 h_M_1 hf dX11_draw_37
set_option maxHeartbeats 4000000 in
set_option maxRecDepth 100000 in
theorem c_X11_actByChance (l : Launch) (B : Nat) (D : va_G) (K : Nat → ClassId)   (M : Mem) (hM : MR M) (Q : Mem → Prop) (hf : f_X11_actByChance  M Q) : CtV l yX11_actByChance cX11_actByChance 4 3 70 B D K [.ref (B + 0)] M Q := by
  refine ct_v (by decide) (Nat.le_of_ble_eq_true rfl) ?_
  intro p e s m args below meth c hC
  have hC : Cx p s m args meth c D K cX11_actByChance 4 RX11 none := hC
  unfold f_X11_actByChance at hf
  refine (show G p l e (rmF 3 70) s m args below meth c B D K 4 0 0 (ZV below args s B D K Q) M 0 [(0, .ref (B + 0))] [] from ?_)
  refine g_aload_n hC 0 dX11_actByChance_0 rfl rfl ?_
  refine g_iconst hC dX11_actByChance_1 ?_
  refine g_callVI hC (sk := []) [J 4] (c_X11_draw l B D K 4 (by unfold inR; omega) M hM _ hf) yv_X11_draw wm_X11_461 okX11.1 sc0 rfl ⟨Nat.le_of_ble_eq_true rfl, Nat.le_of_ble_eq_true rfl, Nat.le_of_ble_eq_true rfl, Nat.le_of_ble_eq_true rfl⟩ rfl (Nat.le_of_ble_eq_true rfl) dX11_actByChance_2 ?_
  intro r_1 M_2 h_r_1 h_M_2 hf
  refine g_istore_n hC [(1, J r_1), (0, .ref (B + 0))] dX11_actByChance_5 rfl (by decide) rfl ?_
  refine g_aload_n hC 1 dX11_actByChance_6 rfl rfl ?_
  refine g_aload_n hC 1 dX11_actByChance_7 rfl rfl ?_
  refine g_getr hC okX11 sc0 2 (by decide) rfl wf_X11_28 dX11_actByChance_8 ?_
  refine g_geti hC okX5 (sh_X5 (Or.inr (Or.inl rfl))) 1 (by decide) rfl wf_X11_147 dX11_actByChance_11 ?_
  refine g_callVI hC (sk := []) [J (M_2 12 1)] (c_X11_draw l B D K (M_2 12 1) (h_M_2 _ _) M_2 h_M_2 _ hf) yv_X11_draw wm_X11_461 okX11.1 sc0 rfl ⟨Nat.le_of_ble_eq_true rfl, Nat.le_of_ble_eq_true rfl, Nat.le_of_ble_eq_true rfl, Nat.le_of_ble_eq_true rfl⟩ rfl (Nat.le_of_ble_eq_true rfl) dX11_actByChance_14 ?_
  intro r_3 M_4 h_r_3 h_M_4 hf
  refine g_istore_n hC [(2, J r_3), (1, J r_1), (0, .ref (B + 0))] dX11_actByChance_17 rfl (by decide) rfl ?_
  refine g_iload_n hC 1 dX11_actByChance_18 rfl rfl ?_
  by_cases c_9 : r_1 = 0
  · replace hf := hf.1 c_9
    refine g_tabIn hC 0 44 h_r_1 c_9 dX11_actByChance_19 (by decide) (by decide) rfl rfl ?_
    refine g_aload_n hC 2 dX11_actByChance_44 rfl rfl ?_
    refine g_getr hC okX11 sc0 2 (by decide) rfl wf_X11_28 dX11_actByChance_45 ?_
    refine g_iload_n hC 0 dX11_actByChance_48 rfl rfl ?_
    refine g_callVZ hC (sk := []) [J r_3] (c_X5_mayReverse l B D K 12 r_3 (Or.inr (Or.inl rfl)) h_r_3 M_4 h_M_4 _ hf) yv_X5_mayReverse wm_X11_314 okX5.1 (sh_X5 (Or.inr (Or.inl rfl))) rfl ⟨Nat.le_of_ble_eq_true rfl, Nat.le_of_ble_eq_true rfl, Nat.le_of_ble_eq_true rfl, Nat.le_of_ble_eq_true rfl⟩ rfl (Nat.le_of_ble_eq_true rfl) dX11_actByChance_49 ?_
    rintro r_5 M_6 h_r_5 - ⟨rfl, hf⟩
    refine g_if_eq hC 181 (zi_ h_r_5) dX11_actByChance_52 rfl (fun c_8 => ?_) (fun c_8 => ?_)
    · replace hf := hf.1 c_8
      exact g_retv hC h_M_4 hf dX11_actByChance_181
    · replace hf := hf.2 c_8
      refine g_aload_n hC 2 dX11_actByChance_55 rfl rfl ?_
      refine g_getr hC okX11 sc0 2 (by decide) rfl wf_X11_28 dX11_actByChance_56 ?_
      refine g_iload_n hC 0 dX11_actByChance_59 rfl rfl ?_
      refine g_callVV hC (sk := []) [J r_3] (c_X5_reverse l B D K 12 r_3 (Or.inr (Or.inl rfl)) h_r_3 M_4 h_M_4 _ hf) yv_X5_reverse wm_X11_317 okX5.1 (sh_X5 (Or.inr (Or.inl rfl))) rfl ⟨Nat.le_of_ble_eq_true rfl, Nat.le_of_ble_eq_true rfl, Nat.le_of_ble_eq_true rfl, Nat.le_of_ble_eq_true rfl⟩ rfl (Nat.le_of_ble_eq_true rfl) dX11_actByChance_60 ?_
      intro M_7 h_M_7 hf
      refine g_goto hC 181 dX11_actByChance_63 rfl ?_
      exact g_retv hC h_M_7 hf dX11_actByChance_181
  · replace hf := hf.2
    by_cases c_14 : r_1 = 1
    · replace hf := hf.1 c_14
      refine g_tabIn hC 1 66 h_r_1 c_14 dX11_actByChance_19 (by decide) (by decide) rfl rfl ?_
      refine g_aload_n hC 2 dX11_actByChance_66 rfl rfl ?_
      refine g_getr hC okX11 sc0 2 (by decide) rfl wf_X11_28 dX11_actByChance_67 ?_
      refine g_getr hC okX5 (sh_X5 (Or.inr (Or.inl rfl))) 5 (by decide) rfl wf_X11_206 dX11_actByChance_70 ?_
      refine g_iload_n hC 0 dX11_actByChance_73 rfl rfl ?_
      refine g_aload_n hC 2 dX11_actByChance_74 rfl rfl ?_
      refine g_bipush hC dX11_actByChance_75 (by decide) ?_
      refine g_callVI hC (sk := [J r_3, .ref (B + 16)]) [J 100] (c_X11_draw l B D K 100 (by unfold inR; omega) M_4 h_M_4 _ hf) yv_X11_draw wm_X11_461 okX11.1 sc0 rfl ⟨Nat.le_of_ble_eq_true rfl, Nat.le_of_ble_eq_true rfl, Nat.le_of_ble_eq_true rfl, Nat.le_of_ble_eq_true rfl⟩ rfl (Nat.le_of_ble_eq_true rfl) dX11_actByChance_77 ?_
      intro r_10 M_11 h_r_10 h_M_11 hf
      obtain ⟨q_12, hf⟩ := hf
      refine g_iastk (r_3.toNat) hC (sh_X5_5 (Or.inr (Or.inl rfl))) q_12.1 q_12.2 rfl dX11_actByChance_80 ?_
      refine g_nmM (fun M_13 e_M_13 => ?_)
      replace hf := hf M_13 e_M_13
      have h_M_13 : MR M_13 := by rw [e_M_13]; exact MR_st h_M_11 h_r_10
      refine g_goto hC 181 dX11_actByChance_81 rfl ?_
      exact g_retv hC h_M_13 hf dX11_actByChance_181
    · replace hf := hf.2
      by_cases c_20 : r_1 = 2
      · replace hf := hf.1 c_20
        refine g_tabIn hC 2 84 h_r_1 c_20 dX11_actByChance_19 (by decide) (by decide) rfl rfl ?_
        refine g_aload_n hC 2 dX11_actByChance_84 rfl rfl ?_
        refine g_getr hC okX11 sc0 2 (by decide) rfl wf_X11_28 dX11_actByChance_85 ?_
        refine g_iload_n hC 0 dX11_actByChance_88 rfl rfl ?_
        refine g_aload_n hC 2 dX11_actByChance_89 rfl rfl ?_
        refine g_getr hC okX11 sc0 2 (by decide) rfl wf_X11_28 dX11_actByChance_90 ?_
        refine g_getr hC okX5 (sh_X5 (Or.inr (Or.inl rfl))) 4 (by decide) rfl wf_X11_203 dX11_actByChance_93 ?_
        refine g_iload_n hC 0 dX11_actByChance_96 rfl rfl ?_
        obtain ⟨q_15, hf⟩ := hf
        refine g_ialdk (r_3.toNat) hC (sh_X5_4 (Or.inr (Or.inl rfl))) q_15.1 q_15.2 rfl dX11_actByChance_97 ?_
        refine g_iconst hC dX11_actByChance_98 ?_
        refine g_idiv hC (h_M_4 _ _) (by unfold inR; omega) (by decide) dX11_actByChance_99 ?_
        refine g_callVZ hC (sk := []) [J r_3, J (Int.tdiv (M_4 15 (r_3.toNat)) 2)] (c_X5_maySplit l B D K 12 r_3 (Int.tdiv (M_4 15 (r_3.toNat)) 2) (Or.inr (Or.inl rfl)) h_r_3 (tdiv_in (h_M_4 _ _) (by decide)) M_4 h_M_4 _ hf) yv_X5_maySplit wm_X11_388 okX5.1 (sh_X5 (Or.inr (Or.inl rfl))) rfl ⟨Nat.le_of_ble_eq_true rfl, Nat.le_of_ble_eq_true rfl, Nat.le_of_ble_eq_true rfl, Nat.le_of_ble_eq_true rfl⟩ rfl (Nat.le_of_ble_eq_true rfl) dX11_actByChance_100 ?_
        rintro r_16 M_17 h_r_16 - ⟨rfl, hf⟩
        refine g_if_eq hC 181 (zi_ h_r_16) dX11_actByChance_103 rfl (fun c_19 => ?_) (fun c_19 => ?_)
        · replace hf := hf.1 c_19
          exact g_retv hC h_M_4 hf dX11_actByChance_181
        · replace hf := hf.2 c_19
          refine g_aload_n hC 2 dX11_actByChance_106 rfl rfl ?_
          refine g_iload_n hC 0 dX11_actByChance_107 rfl rfl ?_
          refine g_aload_n hC 2 dX11_actByChance_108 rfl rfl ?_
          refine g_getr hC okX11 sc0 2 (by decide) rfl wf_X11_28 dX11_actByChance_109 ?_
          refine g_getr hC okX5 (sh_X5 (Or.inr (Or.inl rfl))) 4 (by decide) rfl wf_X11_203 dX11_actByChance_112 ?_
          refine g_iload_n hC 0 dX11_actByChance_115 rfl rfl ?_
          refine g_ialdk (r_3.toNat) hC (sh_X5_4 (Or.inr (Or.inl rfl))) q_15.1 q_15.2 rfl dX11_actByChance_116 ?_
          refine g_iconst hC dX11_actByChance_117 ?_
          refine g_idiv hC (h_M_4 _ _) (by unfold inR; omega) (by decide) dX11_actByChance_118 ?_
          refine g_callVV hC (sk := []) [J r_3, J (Int.tdiv (M_4 15 (r_3.toNat)) 2)] (c_X11_splitReach l B D K r_3 (Int.tdiv (M_4 15 (r_3.toNat)) 2) h_r_3 (tdiv_in (h_M_4 _ _) (by decide)) M_4 h_M_4 _ hf) yv_X11_splitReach wm_X11_392 okX11.1 sc0 rfl ⟨Nat.le_of_ble_eq_true rfl, Nat.le_of_ble_eq_true rfl, Nat.le_of_ble_eq_true rfl, Nat.le_of_ble_eq_true rfl⟩ rfl (Nat.le_of_ble_eq_true rfl) dX11_actByChance_119 ?_
          intro M_18 h_M_18 hf
          refine g_goto hC 181 dX11_actByChance_122 rfl ?_
          exact g_retv hC h_M_18 hf dX11_actByChance_181
      · replace hf := hf.2
        have c_28 : r_1 < 0 ∨ 2 < r_1 := by omega
        replace hf := hf c_28
        refine g_tabOut hC 125 h_r_1 dX11_actByChance_19 c_28 rfl ?_
        refine g_aload_n hC 2 dX11_actByChance_125 rfl rfl ?_
        refine g_aload_n hC 2 dX11_actByChance_126 rfl rfl ?_
        refine g_getr hC okX11 sc0 2 (by decide) rfl wf_X11_28 dX11_actByChance_127 ?_
        refine g_geti hC okX5 (sh_X5 (Or.inr (Or.inl rfl))) 0 (by decide) rfl wf_X11_156 dX11_actByChance_130 ?_
        refine g_callVI hC (sk := []) [J (M_4 12 0)] (c_X11_draw l B D K (M_4 12 0) (h_M_4 _ _) M_4 h_M_4 _ hf) yv_X11_draw wm_X11_461 okX11.1 sc0 rfl ⟨Nat.le_of_ble_eq_true rfl, Nat.le_of_ble_eq_true rfl, Nat.le_of_ble_eq_true rfl, Nat.le_of_ble_eq_true rfl⟩ rfl (Nat.le_of_ble_eq_true rfl) dX11_actByChance_133 ?_
        intro r_21 M_22 h_r_21 h_M_22 hf
        refine g_istore_n hC [(3, J r_21), (2, J r_3), (1, J r_1), (0, .ref (B + 0))] dX11_actByChance_136 rfl (by decide) rfl ?_
        refine g_aload_n hC 3 dX11_actByChance_137 rfl rfl ?_
        refine g_getr hC okX11 sc0 2 (by decide) rfl wf_X11_28 dX11_actByChance_138 ?_
        refine g_aload_n hC 3 dX11_actByChance_141 rfl rfl ?_
        refine g_getr hC okX11 sc0 2 (by decide) rfl wf_X11_28 dX11_actByChance_142 ?_
        refine g_getr hC okX5 (sh_X5 (Or.inr (Or.inl rfl))) 3 (by decide) rfl wf_X11_200 dX11_actByChance_145 ?_
        refine g_iload_n hC 1 dX11_actByChance_148 rfl rfl ?_
        obtain ⟨q_23, hf⟩ := hf
        refine g_ialdk (r_3.toNat) hC (sh_X5_3 (Or.inr (Or.inl rfl))) q_23.1 q_23.2 rfl dX11_actByChance_149 ?_
        refine g_iload_n hC 0 dX11_actByChance_150 rfl rfl ?_
        refine g_bipush hC dX11_actByChance_151 (by decide) ?_
        refine g_iconst hC dX11_actByChance_153 ?_
        refine g_callVZ hC (sk := []) [J (M_22 14 (r_3.toNat)), J r_21, J 10, J 0] (c_X5_mayLay l B D K 12 (M_22 14 (r_3.toNat)) r_21 10 0 (Or.inr (Or.inl rfl)) (h_M_22 _ _) h_r_21 (by unfold inR; omega) (by unfold inR; omega) M_22 h_M_22 _ hf) yv_X5_mayLay wm_X11_372 okX5.1 (sh_X5 (Or.inr (Or.inl rfl))) rfl ⟨Nat.le_of_ble_eq_true rfl, Nat.le_of_ble_eq_true rfl, Nat.le_of_ble_eq_true rfl, Nat.le_of_ble_eq_true rfl⟩ rfl (Nat.le_of_ble_eq_true rfl) dX11_actByChance_154 ?_
        rintro r_24 M_25 h_r_24 - ⟨rfl, hf⟩
        refine g_if_eq hC 181 (zi_ h_r_24) dX11_actByChance_157 rfl (fun c_27 => ?_) (fun c_27 => ?_)
        · replace hf := hf.1 c_27
          exact g_retv hC h_M_22 hf dX11_actByChance_181
        · replace hf := hf.2 c_27
          refine g_aload_n hC 3 dX11_actByChance_160 rfl rfl ?_
          refine g_getr hC okX11 sc0 2 (by decide) rfl wf_X11_28 dX11_actByChance_161 ?_
          refine g_aload_n hC 3 dX11_actByChance_164 rfl rfl ?_
          refine g_getr hC okX11 sc0 2 (by decide) rfl wf_X11_28 dX11_actByChance_165 ?_
          refine g_getr hC okX5 (sh_X5 (Or.inr (Or.inl rfl))) 3 (by decide) rfl wf_X11_200 dX11_actByChance_168 ?_
          refine g_iload_n hC 1 dX11_actByChance_171 rfl rfl ?_
          refine g_ialdk (r_3.toNat) hC (sh_X5_3 (Or.inr (Or.inl rfl))) q_23.1 q_23.2 rfl dX11_actByChance_172 ?_
          refine g_iload_n hC 0 dX11_actByChance_173 rfl rfl ?_
          refine g_bipush hC dX11_actByChance_174 (by decide) ?_
          refine g_iconst hC dX11_actByChance_176 ?_
          refine g_iconst hC dX11_actByChance_177 ?_
          refine g_callVV hC (sk := []) [J (M_22 14 (r_3.toNat)), J r_21, J 10, J 0, J (-1)] (c_X5_lay l B D K 12 (M_22 14 (r_3.toNat)) r_21 10 0 (-1) (Or.inr (Or.inl rfl)) (h_M_22 _ _) h_r_21 (by unfold inR; omega) (by unfold inR; omega) (by unfold inR; omega) M_22 h_M_22 _ hf) yv_X5_lay wm_X11_379 okX5.1 (sh_X5 (Or.inr (Or.inl rfl))) rfl ⟨Nat.le_of_ble_eq_true rfl, Nat.le_of_ble_eq_true rfl, Nat.le_of_ble_eq_true rfl, Nat.le_of_ble_eq_true rfl⟩ rfl (Nat.le_of_ble_eq_true rfl) dX11_actByChance_178 ?_
          intro M_26 h_M_26 hf
          exact g_retv hC h_M_26 hf dX11_actByChance_181
set_option maxHeartbeats 4000000 in
set_option maxRecDepth 100000 in
theorem c_X11_chance (l : Launch) (B : Nat) (D : va_G) (K : Nat → ClassId) (v1 : Int) (i_v1 : inR v1) (M : Mem) (hM : MR M) (Q : Int → Mem → Prop) (hf : f_X11_chance v1 M Q) : CtI l yX11_chance cX11_chance 3 6 153 B D K [.ref (B + 0), J v1] M Q := by
  refine ct_i (by decide) (Nat.le_of_ble_eq_true rfl) ?_
  intro p e s m args below meth c hC
  have hC : Cx p s m args meth c D K cX11_chance 3 RX11 (some .int) := hC
  unfold f_X11_chance at hf
  refine (show G p l e (rmF 6 153) s m args below meth c B D K 3 0 0 (ZI below args s B D K Q) M 0 [(0, .ref (B + 0)), (1, J v1)] [] from ?_)
  refine g_iload_n hC 1 dX11_chance_0 rfl rfl ?_
  refine g_iconst hC dX11_chance_1 ?_
  refine jn_elim (fun (k : Mem → Prop) => ∀ (M_1 : Mem), k M_1 → (MR M_1) → G p l e (rmF 6 153) s m args below meth c B D K 3 0 0 (ZI below args s B D K Q) M_1 21 [(0, .ref (B + 0))] []) hf ?_ ?_
  · intro M_1 hf h_M_1
    refine g_aload_n hC 0 dX11_chance_21 rfl rfl ?_
    refine g_iconst hC dX11_chance_22 ?_
    refine g_callVI hC (sk := []) [J 3] (c_X11_refuse l B D K 3 (by unfold inR; omega) M_1 h_M_1 _ hf) yv_X11_refuse wm_X11_105 okX11.1 sc0 rfl ⟨Nat.le_of_ble_eq_true rfl, Nat.le_of_ble_eq_true rfl, Nat.le_of_ble_eq_true rfl, Nat.le_of_ble_eq_true rfl⟩ rfl (Nat.le_of_ble_eq_true rfl) dX11_chance_23 ?_
    intro r_2 M_3 h_r_2 h_M_3 hf
    exact g_reti hC h_r_2 h_M_3 hf dX11_chance_26
  · intro J21 hJ21 hf
    refine g_icmp_lt hC 21 i_v1 (by unfold inR; omega) dX11_chance_2 rfl (fun c_15 => ?_) (fun c_15 => ?_)
    · replace hf := hf.1 c_15
      refine g_sub [(0, .ref (B + 0))] [0] rfl ?_
      exact hJ21 M hf hM
    · replace hf := hf.2 c_15
      refine g_iload_n hC 1 dX11_chance_5 rfl rfl ?_
      refine g_bipush hC dX11_chance_6 (by decide) ?_
      refine g_icmp_gt hC 21 i_v1 (by unfold inR; omega) dX11_chance_8 rfl (fun c_14 => ?_) (fun c_14 => ?_)
      · replace hf := hf.1 c_14
        refine g_sub [(0, .ref (B + 0))] [0] rfl ?_
        exact hJ21 M hf hM
      · replace hf := hf.2 c_14
        refine g_aload_n hC 0 dX11_chance_11 rfl rfl ?_
        refine g_getr hC okX11 sc0 2 (by decide) rfl wf_X11_28 dX11_chance_12 ?_
        refine g_geti hC okX5 (sh_X5 (Or.inr (Or.inl rfl))) 1 (by decide) rfl wf_X11_147 dX11_chance_15 ?_
        refine g_if_ne hC 27 (hM _ _) dX11_chance_18 rfl (fun c_13 => ?_) (fun c_13 => ?_)
        · replace hf := hf.1 c_13
          refine g_aload_n hC 0 dX11_chance_27 rfl rfl ?_
          refine g_callVV hC (sk := []) [] (c_X11_beginAct l B D K   M hM _ hf) yv_X11_beginAct wm_X11_376 okX11.1 sc0 rfl ⟨Nat.le_of_ble_eq_true rfl, Nat.le_of_ble_eq_true rfl, Nat.le_of_ble_eq_true rfl, Nat.le_of_ble_eq_true rfl⟩ rfl (Nat.le_of_ble_eq_true rfl) dX11_chance_28 ?_
          intro M_4 h_M_4 hf
          refine g_iconst hC dX11_chance_31 ?_
          refine g_istore_n hC [(2, J 0), (0, .ref (B + 0)), (1, J v1)] dX11_chance_32 rfl (by decide) rfl ?_
          refine jn_elim (fun (k : Mem → Prop) => ∀ (M_5 : Mem), k M_5 → (MR M_5) → G p l e (rmF 6 153) s m args below meth c B D K 3 0 0 (ZI below args s B D K Q) M_5 48 [(0, .ref (B + 0))] []) hf ?_ ?_
          · intro M_5 hf h_M_5
            refine g_aload_n hC 0 dX11_chance_48 rfl rfl ?_
            refine g_callVV hC (sk := []) [] (c_X11_endAct l B D K   M_5 h_M_5 _ hf) yv_X11_endAct wm_X11_383 okX11.1 sc0 rfl ⟨Nat.le_of_ble_eq_true rfl, Nat.le_of_ble_eq_true rfl, Nat.le_of_ble_eq_true rfl, Nat.le_of_ble_eq_true rfl⟩ rfl (Nat.le_of_ble_eq_true rfl) dX11_chance_49 ?_
            intro M_6 h_M_6 hf
            refine g_aload_n hC 0 dX11_chance_52 rfl rfl ?_
            refine g_getr hC okX11 sc0 2 (by decide) rfl wf_X11_28 dX11_chance_53 ?_
            refine g_geti hC okX5 (sh_X5 (Or.inr (Or.inl rfl))) 1 (by decide) rfl wf_X11_147 dX11_chance_56 ?_
            exact g_reti hC (h_M_6 _ _) h_M_6 hf dX11_chance_59
          · intro J48 hJ48 hf
            refine g_sub [(0, .ref (B + 0)), (1, J v1), (2, J 0)] [1, 2, 0] rfl ?_
            refine wl2_elim (fun (v2_7 : Int) (M_8 : Mem) => inR v2_7 → MR M_8 → G p l e (rmF 6 153) s m args below meth c B D K 3 0 0 (ZI below args s B D K Q) M_8 33 [(0, .ref (B + 0)), (1, J v1), (2, J v2_7)] []) ?_ 5000 0 M_4 hf (by unfold inR; omega) h_M_4
            intro rec33 ih33 v2_7 M_8 hf h_v2_7 h_M_8
            unfold X11_chance_b33 at hf
            refine g_iload_n hC 2 dX11_chance_33 rfl rfl ?_
            refine g_iload_n hC 1 dX11_chance_34 rfl rfl ?_
            refine g_icmp_ge hC 48 h_v2_7 i_v1 dX11_chance_35 rfl (fun c_12 => ?_) (fun c_12 => ?_)
            · replace hf := hf.1 c_12
              refine g_sub [(0, .ref (B + 0))] [0] rfl ?_
              exact hJ48 M_8 hf h_M_8
            · replace hf := hf.2 c_12
              refine g_aload_n hC 0 dX11_chance_38 rfl rfl ?_
              refine g_callVV hC (sk := []) [] (c_X11_actByChance l B D K   M_8 h_M_8 _ hf) yv_X11_actByChance wm_X11_396 okX11.1 sc0 rfl ⟨Nat.le_of_ble_eq_true rfl, Nat.le_of_ble_eq_true rfl, Nat.le_of_ble_eq_true rfl, Nat.le_of_ble_eq_true rfl⟩ rfl (Nat.le_of_ble_eq_true rfl) dX11_chance_39 ?_
              intro M_9 h_M_9 hf
              obtain ⟨q_11, hf⟩ := hf
              obtain ⟨v2_10, e_v2_10⟩ : ∃ z : Int, z = v2_7 + 1 := ⟨_, rfl⟩
              replace hf := hf v2_10 e_v2_10
              have h_v2_10 : inR v2_10 := by rw [e_v2_10]; exact q_11
              refine g_iincv hC 2 e_v2_10 [(2, J v2_10), (0, .ref (B + 0)), (1, J v1)] dX11_chance_42 rfl (by decide) rfl ?_
              refine g_goto hC 33 dX11_chance_45 rfl ?_
              refine g_sub [(0, .ref (B + 0)), (1, J v1), (2, J v2_10)] [1, 2, 0] rfl ?_
              exact ih33 v2_10 M_9 hf h_v2_10 h_M_9
        · replace hf := hf.2 c_13
          refine g_sub [(0, .ref (B + 0))] [0] rfl ?_
          exact hJ21 M hf hM
set_option maxHeartbeats 4000000 in
set_option maxRecDepth 100000 in
theorem c_X11_undo (l : Launch) (B : Nat) (D : va_G) (K : Nat → ClassId)   (M : Mem) (hM : MR M) (Q : Int → Mem → Prop) (hf : f_X11_undo  M Q) : CtZ l yX11_undo cX11_undo 1 5 130 B D K [.ref (B + 0)] M Q := by
  refine ct_z (by decide) (Nat.le_of_ble_eq_true rfl) ?_
  intro p e s m args below meth c hC
  have hC : Cx p s m args meth c D K cX11_undo 1 RX11 (some .boolean) := hC
  unfold f_X11_undo at hf
  refine (show G p l e (rmF 5 130) s m args below meth c B D K 1 0 0 (ZZ below args s B D K Q) M 0 [(0, .ref (B + 0))] [] from ?_)
  refine g_aload_n hC 0 dX11_undo_0 rfl rfl ?_
  refine g_getr hC okX11 sc0 8 (by decide) rfl wf_X11_56 dX11_undo_1 ?_
  refine g_geti hC okX3 sc58 0 (by decide) rfl wf_X11_174 dX11_undo_4 ?_
  refine g_if_ne hC 18 (hM _ _) dX11_undo_7 rfl (fun c_6 => ?_) (fun c_6 => ?_)
  · replace hf := hf.1 c_6
    refine g_aload_n hC 0 dX11_undo_18 rfl rfl ?_
    refine g_getr hC okX11 sc0 8 (by decide) rfl wf_X11_56 dX11_undo_19 ?_
    refine g_aload_n hC 0 dX11_undo_22 rfl rfl ?_
    refine g_getr hC okX11 sc0 2 (by decide) rfl wf_X11_28 dX11_undo_23 ?_
    refine g_callVV hC (sk := []) [.ref (B + 12)] (c_X3_restore l B D K 12 (Or.inr (Or.inl rfl)) M hM _ hf) yv_X3_restore wm_X11_399 okX3.1 sc58 rfl ⟨Nat.le_of_ble_eq_true rfl, Nat.le_of_ble_eq_true rfl, Nat.le_of_ble_eq_true rfl, Nat.le_of_ble_eq_true rfl⟩ rfl (Nat.le_of_ble_eq_true rfl) dX11_undo_26 ?_
    intro M_1 h_M_1 hf
    refine g_aload_n hC 0 dX11_undo_29 rfl rfl ?_
    refine g_getr hC okX11 sc0 9 (by decide) rfl wf_X11_63 dX11_undo_30 ?_
    refine g_iconst hC dX11_undo_33 ?_
    refine g_putz hC okX0 tnX0 sc60 0 (by decide) rfl rfl (by decide) wf_X11_352 (Or.inl rfl) dX11_undo_34 ?_
    refine g_nmM (fun M_2 e_M_2 => ?_)
    replace hf := hf M_2 e_M_2
    have h_M_2 : MR M_2 := by rw [e_M_2]; exact MR_st h_M_1 (by unfold inR; omega)
    refine g_aload_n hC 0 dX11_undo_37 rfl rfl ?_
    refine g_callVV hC (sk := []) [] (c_X11_figure l B D K   M_2 h_M_2 _ hf) yv_X11_figure wm_X11_144 okX11.1 sc0 rfl ⟨Nat.le_of_ble_eq_true rfl, Nat.le_of_ble_eq_true rfl, Nat.le_of_ble_eq_true rfl, Nat.le_of_ble_eq_true rfl⟩ rfl (Nat.le_of_ble_eq_true rfl) dX11_undo_38 ?_
    intro M_3 h_M_3 hf
    refine g_iconst hC dX11_undo_41 ?_
    exact g_retz hC (Or.inr rfl) h_M_3 hf dX11_undo_42
  · replace hf := hf.2 c_6
    refine g_aload_n hC 0 dX11_undo_10 rfl rfl ?_
    refine g_iconst hC dX11_undo_11 ?_
    refine g_callVI hC (sk := []) [J 4] (c_X11_refuse l B D K 4 (by unfold inR; omega) M hM _ hf) yv_X11_refuse wm_X11_105 okX11.1 sc0 rfl ⟨Nat.le_of_ble_eq_true rfl, Nat.le_of_ble_eq_true rfl, Nat.le_of_ble_eq_true rfl, Nat.le_of_ble_eq_true rfl⟩ rfl (Nat.le_of_ble_eq_true rfl) dX11_undo_12 ?_
    intro r_4 M_5 h_r_4 h_M_5 hf
    refine g_pop hC dX11_undo_15 rfl ?_
    refine g_iconst hC dX11_undo_16 ?_
    exact g_retz hC (Or.inl rfl) h_M_5 hf dX11_undo_17
set_option maxHeartbeats 4000000 in
set_option maxRecDepth 100000 in
theorem c_X11_seed (l : Launch) (B : Nat) (D : va_G) (K : Nat → ClassId) (v1 : Int) (i_v1 : inR v1) (M : Mem) (hM : MR M) (Q : Int → Mem → Prop) (hf : f_X11_seed v1 M Q) : CtZ l yX11_seed cX11_seed 2 1 21 B D K [.ref (B + 0), J v1] M Q := by
  refine ct_z (by decide) (Nat.le_of_ble_eq_true rfl) ?_
  intro p e s m args below meth c hC
  have hC : Cx p s m args meth c D K cX11_seed 2 RX11 (some .boolean) := hC
  unfold f_X11_seed at hf
  refine (show G p l e (rmF 1 21) s m args below meth c B D K 2 0 0 (ZZ below args s B D K Q) M 0 [(0, .ref (B + 0)), (1, J v1)] [] from ?_)
  refine g_iload_n hC 1 dX11_seed_0 rfl rfl ?_
  refine g_if_ge hC 12 i_v1 dX11_seed_1 rfl (fun c_4 => ?_) (fun c_4 => ?_)
  · replace hf := hf.1 c_4
    refine g_aload_n hC 0 dX11_seed_12 rfl rfl ?_
    refine g_iload_n hC 1 dX11_seed_13 rfl rfl ?_
    refine g_puti hC okX11 tnX11 sc0 16 (by decide) rfl rfl (by decide) wf_X11_97 dX11_seed_14 ?_
    refine g_nmM (fun M_1 e_M_1 => ?_)
    replace hf := hf M_1 e_M_1
    have h_M_1 : MR M_1 := by rw [e_M_1]; exact MR_st hM i_v1
    refine g_iconst hC dX11_seed_17 ?_
    exact g_retz hC (Or.inr rfl) h_M_1 hf dX11_seed_18
  · replace hf := hf.2 c_4
    refine g_aload_n hC 0 dX11_seed_4 rfl rfl ?_
    refine g_iconst hC dX11_seed_5 ?_
    refine g_callVI hC (sk := []) [J 5] (c_X11_refuse l B D K 5 (by unfold inR; omega) M hM _ hf) yv_X11_refuse wm_X11_105 okX11.1 sc0 rfl ⟨Nat.le_of_ble_eq_true rfl, Nat.le_of_ble_eq_true rfl, Nat.le_of_ble_eq_true rfl, Nat.le_of_ble_eq_true rfl⟩ rfl (Nat.le_of_ble_eq_true rfl) dX11_seed_6 ?_
    intro r_2 M_3 h_r_2 h_M_3 hf
    refine g_pop hC dX11_seed_9 rfl ?_
    refine g_iconst hC dX11_seed_10 ?_
    exact g_retz hC (Or.inl rfl) h_M_3 hf dX11_seed_11
set_option maxHeartbeats 4000000 in
set_option maxRecDepth 100000 in
theorem c_X11_image (l : Launch) (B : Nat) (D : va_G) (K : Nat → ClassId)   (M : Mem) (hM : MR M) (Q : Int → Mem → Prop) (hf : f_X11_image  M Q) : CtI l yX11_image cX11_image 1 1 24 B D K [.ref (B + 0)] M Q := by
  refine ct_i (by decide) (Nat.le_of_ble_eq_true rfl) ?_
  intro p e s m args below meth c hC
  have hC : Cx p s m args meth c D K cX11_image 1 RX11 (some .int) := hC
  unfold f_X11_image at hf
  refine (show G p l e (rmF 1 24) s m args below meth c B D K 1 0 0 (ZI below args s B D K Q) M 0 [(0, .ref (B + 0))] [] from ?_)
  refine g_aload_n hC 0 dX11_image_0 rfl rfl ?_
  refine g_getr hC okX11 sc0 11 (by decide) rfl wf_X11_77 dX11_image_1 ?_
  refine g_aload_n hC 0 dX11_image_4 rfl rfl ?_
  refine g_getr hC okX11 sc0 2 (by decide) rfl wf_X11_28 dX11_image_5 ?_
  refine g_callVV hC (sk := []) [.ref (B + 12)] (c_X4_write l B D K 12 (Or.inr (Or.inl rfl)) M hM _ hf) yv_X4_write wm_X11_402 okX4.1 sc66 rfl ⟨Nat.le_of_ble_eq_true rfl, Nat.le_of_ble_eq_true rfl, Nat.le_of_ble_eq_true rfl, Nat.le_of_ble_eq_true rfl⟩ rfl (Nat.le_of_ble_eq_true rfl) dX11_image_8 ?_
  intro M_1 h_M_1 hf
  refine g_aload_n hC 0 dX11_image_11 rfl rfl ?_
  refine g_getr hC okX11 sc0 11 (by decide) rfl wf_X11_77 dX11_image_12 ?_
  refine g_geti hC okX4 sc66 0 (by decide) rfl wf_X11_405 dX11_image_15 ?_
  exact g_reti hC (h_M_1 _ _) h_M_1 hf dX11_image_18
set_option maxHeartbeats 4000000 in
set_option maxRecDepth 100000 in
theorem c_X11_octet (l : Launch) (B : Nat) (D : va_G) (K : Nat → ClassId) (v1 : Int) (i_v1 : inR v1) (M : Mem) (hM : MR M) (Q : Int → Prop) (hf : f_X11_octet v1 M Q) : CtI l yX11_octet cX11_octet 2 0 0 B D K [.ref (B + 0), J v1] M (fun r M1 => M = M1 ∧ Q r) := by
  refine ct_i (by decide) (Nat.le_of_ble_eq_true rfl) ?_
  intro p e s m args below meth c hC
  have hC : Cx p s m args meth c D K cX11_octet 2 RX11 (some .int) := hC
  unfold f_X11_octet at hf
  refine (show G p l e (rmF 0 0) s m args below meth c B D K 2 0 0 (ZI below args s B D K (fun r M1 => M = M1 ∧ Q r)) M 0 [(0, .ref (B + 0)), (1, J v1)] [] from ?_)
  refine g_iload_n hC 1 dX11_octet_0 rfl rfl ?_
  refine g_if_lt hC 27 i_v1 dX11_octet_1 rfl (fun c_3 => ?_) (fun c_3 => ?_)
  · replace hf := hf.1 c_3
    refine g_iconst hC dX11_octet_27 ?_
    exact g_reti hC (by unfold inR; omega) hM ⟨rfl, hf⟩ dX11_octet_28
  · replace hf := hf.2 c_3
    refine g_iload_n hC 1 dX11_octet_4 rfl rfl ?_
    refine g_aload_n hC 0 dX11_octet_5 rfl rfl ?_
    refine g_getr hC okX11 sc0 11 (by decide) rfl wf_X11_77 dX11_octet_6 ?_
    refine g_geti hC okX4 sc66 0 (by decide) rfl wf_X11_405 dX11_octet_9 ?_
    refine g_icmp_ge hC 27 i_v1 (hM _ _) dX11_octet_12 rfl (fun c_2 => ?_) (fun c_2 => ?_)
    · replace hf := hf.1 c_2
      refine g_iconst hC dX11_octet_27 ?_
      exact g_reti hC (by unfold inR; omega) hM ⟨rfl, hf⟩ dX11_octet_28
    · replace hf := hf.2 c_2
      refine g_aload_n hC 0 dX11_octet_15 rfl rfl ?_
      refine g_getr hC okX11 sc0 11 (by decide) rfl wf_X11_77 dX11_octet_16 ?_
      refine g_getr hC okX4 sc66 1 (by decide) rfl wf_X11_406 dX11_octet_19 ?_
      refine g_iload_n hC 1 dX11_octet_22 rfl rfl ?_
      obtain ⟨q_1, hf⟩ := hf
      refine g_ialdk (v1.toNat) hC sc67 q_1.1 q_1.2 rfl dX11_octet_23 ?_
      refine g_goto hC 28 dX11_octet_24 rfl ?_
      exact g_reti hC (hM _ _) hM ⟨rfl, hf⟩ dX11_octet_28
set_option maxHeartbeats 4000000 in
set_option maxRecDepth 100000 in
theorem c_X11_on (l : Launch) (B : Nat) (D : va_G) (K : Nat → ClassId)   (M : Mem) (hM : MR M) (Q : Int → Mem → Prop) (hf : f_X11_on  M Q) : CtZ l yX11_on cX11_on 2 5 130 B D K [.ref (B + 0)] M Q := by
  refine ct_z (by decide) (Nat.le_of_ble_eq_true rfl) ?_
  intro p e s m args below meth c hC
  have hC : Cx p s m args meth c D K cX11_on 2 RX11 (some .boolean) := hC
  unfold f_X11_on at hf
  refine (show G p l e (rmF 5 130) s m args below meth c B D K 2 0 0 (ZZ below args s B D K Q) M 0 [(0, .ref (B + 0))] [] from ?_)
  refine g_aload_n hC 0 dX11_on_0 rfl rfl ?_
  refine g_getr hC okX11 sc0 0 (by decide) rfl wf_X11_10 dX11_on_1 ?_
  refine g_aload_n hC 0 dX11_on_4 rfl rfl ?_
  refine g_getr hC okX11 sc0 13 (by decide) rfl wf_X11_88 dX11_on_5 ?_
  refine g_aload_n hC 0 dX11_on_8 rfl rfl ?_
  refine g_geti hC okX11 sc0 5 (by decide) rfl wf_X11_137 dX11_on_9 ?_
  refine g_callSZ hC (sk := []) [.ref (B + 1), .ref (B + 72), J (M 0 5)] (c_X4_read l B D K 72 (M 0 5) (Or.inr (Or.inr rfl)) (hM _ _) M hM _ hf) yv_X4_read wm_X11_409 rfl ⟨Nat.le_of_ble_eq_true rfl, Nat.le_of_ble_eq_true rfl, Nat.le_of_ble_eq_true rfl, Nat.le_of_ble_eq_true rfl⟩ rfl (Nat.le_of_ble_eq_true rfl) dX11_on_12 ?_
  intro r_1 M_2 h_r_1 h_M_2 hf
  refine g_istore_n hC [(1, J r_1), (0, .ref (B + 0))] dX11_on_15 rfl (by decide) rfl ?_
  refine g_aload_n hC 1 dX11_on_16 rfl rfl ?_
  refine g_getr hC okX11 sc0 0 (by decide) rfl wf_X11_10 dX11_on_17 ?_
  refine g_iconst hC dX11_on_20 ?_
  refine g_puti hC okX10 tnX10 sc1 1 (by decide) rfl rfl (by decide) wf_X11_113 dX11_on_21 ?_
  refine g_nmM (fun M_3 e_M_3 => ?_)
  replace hf := hf M_3 e_M_3
  have h_M_3 : MR M_3 := by rw [e_M_3]; exact MR_st h_M_2 (by unfold inR; omega)
  refine g_iload_n hC 0 dX11_on_24 rfl rfl ?_
  refine g_if_ne hC 36 (zi_ h_r_1) dX11_on_25 rfl (fun c_10 => ?_) (fun c_10 => ?_)
  · replace hf := hf.1 c_10
    refine g_aload_n hC 1 dX11_on_36 rfl rfl ?_
    refine g_getr hC okX11 sc0 2 (by decide) rfl wf_X11_28 dX11_on_37 ?_
    refine g_aload_n hC 1 dX11_on_40 rfl rfl ?_
    refine g_getr hC okX11 sc0 13 (by decide) rfl wf_X11_88 dX11_on_41 ?_
    refine g_callVV hC (sk := []) [.ref (B + 72)] (c_X5_copyFrom l B D K 12 72 (Or.inr (Or.inl rfl)) (Or.inr (Or.inr rfl)) M_3 h_M_3 _ hf) yv_X5_copyFrom wm_X11_122 okX5.1 (sh_X5 (Or.inr (Or.inl rfl))) rfl ⟨Nat.le_of_ble_eq_true rfl, Nat.le_of_ble_eq_true rfl, Nat.le_of_ble_eq_true rfl, Nat.le_of_ble_eq_true rfl⟩ rfl (Nat.le_of_ble_eq_true rfl) dX11_on_44 ?_
    intro M_4 h_M_4 hf
    refine g_aload_n hC 1 dX11_on_47 rfl rfl ?_
    refine g_getr hC okX11 sc0 3 (by decide) rfl wf_X11_32 dX11_on_48 ?_
    refine g_iconst hC dX11_on_51 ?_
    refine g_callSV hC (sk := []) [.ref (B + 18), J 0] (c_fill l B D K 18 _ sc18 0 (by unfold inR; omega) M_4 h_M_4) yv_J7_fill_53178 wm_X11_412 rfl ⟨Nat.le_of_ble_eq_true rfl, Nat.le_of_ble_eq_true rfl, Nat.le_of_ble_eq_true rfl, Nat.le_of_ble_eq_true rfl⟩ rfl (Nat.le_of_ble_eq_true rfl) dX11_on_52 ?_
    intro M_5 h_M_5 e_M_5
    replace hf := hf M_5 e_M_5
    refine g_aload_n hC 1 dX11_on_55 rfl rfl ?_
    refine g_callVV hC (sk := []) [] (c_X11_forgetActs l B D K   M_5 h_M_5 _ hf) yv_X11_forgetActs wm_X11_141 okX11.1 sc0 rfl ⟨Nat.le_of_ble_eq_true rfl, Nat.le_of_ble_eq_true rfl, Nat.le_of_ble_eq_true rfl, Nat.le_of_ble_eq_true rfl⟩ rfl (Nat.le_of_ble_eq_true rfl) dX11_on_56 ?_
    intro M_6 h_M_6 hf
    refine g_aload_n hC 1 dX11_on_59 rfl rfl ?_
    refine g_callVV hC (sk := []) [] (c_X11_figure l B D K   M_6 h_M_6 _ hf) yv_X11_figure wm_X11_144 okX11.1 sc0 rfl ⟨Nat.le_of_ble_eq_true rfl, Nat.le_of_ble_eq_true rfl, Nat.le_of_ble_eq_true rfl, Nat.le_of_ble_eq_true rfl⟩ rfl (Nat.le_of_ble_eq_true rfl) dX11_on_60 ?_
    intro M_7 h_M_7 hf
    refine g_iconst hC dX11_on_63 ?_
    exact g_retz hC (Or.inr rfl) h_M_7 hf dX11_on_64
  · replace hf := hf.2 c_10
    refine g_aload_n hC 1 dX11_on_28 rfl rfl ?_
    refine g_iconst hC dX11_on_29 ?_
    refine g_callVI hC (sk := []) [J 5] (c_X11_refuse l B D K 5 (by unfold inR; omega) M_3 h_M_3 _ hf) yv_X11_refuse wm_X11_105 okX11.1 sc0 rfl ⟨Nat.le_of_ble_eq_true rfl, Nat.le_of_ble_eq_true rfl, Nat.le_of_ble_eq_true rfl, Nat.le_of_ble_eq_true rfl⟩ rfl (Nat.le_of_ble_eq_true rfl) dX11_on_30 ?_
    intro r_8 M_9 h_r_8 h_M_9 hf
    refine g_pop hC dX11_on_33 rfl ?_
    refine g_iconst hC dX11_on_34 ?_
    exact g_retz hC (Or.inl rfl) h_M_9 hf dX11_on_35
set_option maxHeartbeats 4000000 in
set_option maxRecDepth 100000 in
theorem c_X11_status (l : Launch) (B : Nat) (D : va_G) (K : Nat → ClassId) (v1 : Int) (i_v1 : inR v1) (M : Mem) (hM : MR M) (Q : Int → Prop) (hf : f_X11_status v1 M Q) : CtI l yX11_status cX11_status 2 0 0 B D K [.ref (B + 0), J v1] M (fun r M1 => M = M1 ∧ Q r) := by
  refine ct_i (by decide) (Nat.le_of_ble_eq_true rfl) ?_
  intro p e s m args below meth c hC
  have hC : Cx p s m args meth c D K cX11_status 2 RX11 (some .int) := hC
  unfold f_X11_status at hf
  refine (show G p l e (rmF 0 0) s m args below meth c B D K 2 0 0 (ZI below args s B D K (fun r M1 => M = M1 ∧ Q r)) M 0 [(0, .ref (B + 0)), (1, J v1)] [] from ?_)
  refine g_iload_n hC 1 dX11_status_0 rfl rfl ?_
  refine g_if_lt hC 19 i_v1 dX11_status_1 rfl (fun c_3 => ?_) (fun c_3 => ?_)
  · replace hf := hf.1 c_3
    refine g_iconst hC dX11_status_19 ?_
    exact g_reti hC (by unfold inR; omega) hM ⟨rfl, hf⟩ dX11_status_20
  · replace hf := hf.2 c_3
    refine g_iload_n hC 1 dX11_status_4 rfl rfl ?_
    refine g_bipush hC dX11_status_5 (by decide) ?_
    refine g_icmp_ge hC 19 i_v1 (by unfold inR; omega) dX11_status_7 rfl (fun c_2 => ?_) (fun c_2 => ?_)
    · replace hf := hf.1 c_2
      refine g_iconst hC dX11_status_19 ?_
      exact g_reti hC (by unfold inR; omega) hM ⟨rfl, hf⟩ dX11_status_20
    · replace hf := hf.2 c_2
      refine g_aload_n hC 0 dX11_status_10 rfl rfl ?_
      refine g_getr hC okX11 sc0 15 (by decide) rfl wf_X11_94 dX11_status_11 ?_
      refine g_iload_n hC 1 dX11_status_14 rfl rfl ?_
      obtain ⟨q_1, hf⟩ := hf
      refine g_ialdk (v1.toNat) hC sc94 q_1.1 q_1.2 rfl dX11_status_15 ?_
      refine g_goto hC 20 dX11_status_16 rfl ?_
      exact g_reti hC (hM _ _) hM ⟨rfl, hf⟩ dX11_status_20
set_option maxHeartbeats 4000000 in
set_option maxRecDepth 100000 in
theorem c_X12_isIn (l : Launch) (B : Nat) (D : va_G) (K : Nat → ClassId) (v0 : Int) (v2 : Int) (v4 : Int) (i_v0 : inL v0) (i_v2 : inL v2) (i_v4 : inL v4) (M : Mem) (hM : MR M) (Q : Int → Prop) (hf : f_X12_isIn v0 v2 v4 M Q) : CtZ l yX12_isIn cX12_isIn 6 0 0 B D K [JL v0, JL v2, JL v4] M (fun r M1 => M = M1 ∧ Q r) := by
  refine ct_z (by decide) (Nat.le_of_ble_eq_true rfl) ?_
  intro p e s m args below meth c hC
  have hC : Cx p s m args meth c D K cX12_isIn 6 RX12 (some .boolean) := hC
  unfold f_X12_isIn at hf
  refine (show G p l e (rmF 0 0) s m args below meth c B D K 6 0 0 (ZZ below args s B D K (fun r M1 => M = M1 ∧ Q r)) M 0 [(0, JL v0), (2, JL v2), (4, JL v4)] [] from ?_)
  refine g_lload_n hC 0 dX12_isIn_0 rfl rfl ?_
  refine g_lload_n hC 1 dX12_isIn_1 rfl rfl ?_
  refine g_lcmp hC i_v0 i_v2 dX12_isIn_2 ?_
  refine g_if_lt hC 17 (cmpI_in _ _) dX12_isIn_3 rfl (fun c_2 => ?_) (fun c_2 => ?_)
  · replace hf := hf.1 c_2
    refine g_iconst hC dX12_isIn_17 ?_
    exact g_retz hC (Or.inl rfl) hM ⟨rfl, hf⟩ dX12_isIn_18
  · replace hf := hf.2 c_2
    refine g_lload_n hC 0 dX12_isIn_6 rfl rfl ?_
    refine g_lload hC 2 dX12_isIn_7 rfl ?_
    refine g_lcmp hC i_v0 i_v4 dX12_isIn_9 ?_
    refine g_if_gt hC 17 (cmpI_in _ _) dX12_isIn_10 rfl (fun c_1 => ?_) (fun c_1 => ?_)
    · replace hf := hf.1 c_1
      refine g_iconst hC dX12_isIn_17 ?_
      exact g_retz hC (Or.inl rfl) hM ⟨rfl, hf⟩ dX12_isIn_18
    · replace hf := hf.2 c_1
      refine g_iconst hC dX12_isIn_13 ?_
      refine g_goto hC 18 dX12_isIn_14 rfl ?_
      exact g_retz hC (Or.inr rfl) hM ⟨rfl, hf⟩ dX12_isIn_18
set_option maxHeartbeats 4000000 in
set_option maxRecDepth 100000 in
theorem c_X12_flag (l : Launch) (B : Nat) (D : va_G) (K : Nat → ClassId) (v0 : Int) (i_v0 : inR v0) (M : Mem) (hM : MR M) (Q : Int → Prop) (hf : f_X12_flag v0 M Q) : CtI l yX12_flag cX12_flag 1 0 0 B D K [J v0] M (fun r M1 => M = M1 ∧ Q r) := by
  refine ct_i (by decide) (Nat.le_of_ble_eq_true rfl) ?_
  intro p e s m args below meth c hC
  have hC : Cx p s m args meth c D K cX12_flag 1 RX12 (some .int) := hC
  unfold f_X12_flag at hf
  refine (show G p l e (rmF 0 0) s m args below meth c B D K 1 0 0 (ZI below args s B D K (fun r M1 => M = M1 ∧ Q r)) M 0 [(0, J v0)] [] from ?_)
  refine g_iload_n hC 0 dX12_flag_0 rfl rfl ?_
  refine g_if_eq hC 8 i_v0 dX12_flag_1 rfl (fun c_1 => ?_) (fun c_1 => ?_)
  · replace hf := hf.1 c_1
    refine g_iconst hC dX12_flag_8 ?_
    exact g_reti hC (by unfold inR; omega) hM ⟨rfl, hf⟩ dX12_flag_9
  · replace hf := hf.2 c_1
    refine g_iconst hC dX12_flag_4 ?_
    refine g_goto hC 9 dX12_flag_5 rfl ?_
    exact g_reti hC (by unfold inR; omega) hM ⟨rfl, hf⟩ dX12_flag_9
set_option maxHeartbeats 4000000 in
set_option maxRecDepth 100000 in
theorem c_X12_isOf (l : Launch) (B : Nat) (D : va_G) (K : Nat → ClassId) (v0 : Int) (v1 : Int) (i_v0 : inR v0) (i_v1 : inR v1) (M : Mem) (hM : MR M) (Q : Int → Prop) (hf : f_X12_isOf v0 v1 M Q) : CtZ l yX12_isOf cX12_isOf 2 0 0 B D K [J v0, J v1] M (fun r M1 => M = M1 ∧ Q r) := by
  refine ct_z (by decide) (Nat.le_of_ble_eq_true rfl) ?_
  intro p e s m args below meth c hC
  have hC : Cx p s m args meth c D K cX12_isOf 2 RX12 (some .boolean) := hC
  unfold f_X12_isOf at hf
  refine (show G p l e (rmF 0 0) s m args below meth c B D K 2 0 0 (ZZ below args s B D K (fun r M1 => M = M1 ∧ Q r)) M 0 [(0, J v0), (1, J v1)] [] from ?_)
  refine g_iload_n hC 0 dX12_isOf_0 rfl rfl ?_
  refine g_iload_n hC 1 dX12_isOf_1 rfl rfl ?_
  refine g_ishr hC dX12_isOf_2 ?_
  refine g_iconst hC dX12_isOf_3 ?_
  refine g_iand hC dX12_isOf_4 ?_
  refine g_iconst hC dX12_isOf_5 ?_
  refine g_icmp_ne hC 13 (bAnd_in _ _) (by unfold inR; omega) dX12_isOf_6 rfl (fun c_1 => ?_) (fun c_1 => ?_)
  · replace hf := hf.1 c_1
    refine g_iconst hC dX12_isOf_13 ?_
    exact g_retz hC (Or.inl rfl) hM ⟨rfl, hf⟩ dX12_isOf_14
  · replace hf := hf.2 c_1
    refine g_iconst hC dX12_isOf_9 ?_
    refine g_goto hC 14 dX12_isOf_10 rfl ?_
    exact g_retz hC (Or.inr rfl) hM ⟨rfl, hf⟩ dX12_isOf_14
set_option maxHeartbeats 4000000 in
set_option maxRecDepth 100000 in
theorem c_X12_count (l : Launch) (B : Nat) (D : va_G) (K : Nat → ClassId) (v0 : Int) (i_v0 : inR v0) (M : Mem) (hM : MR M) (Q : Int → Prop) (hf : f_X12_count v0 M Q) : CtI l yX12_count cX12_count 3 0 0 B D K [J v0] M (fun r M1 => M = M1 ∧ Q r) := by
  refine ct_i (by decide) (Nat.le_of_ble_eq_true rfl) ?_
  intro p e s m args below meth c hC
  have hC : Cx p s m args meth c D K cX12_count 3 RX12 (some .int) := hC
  unfold f_X12_count at hf
  refine (show G p l e (rmF 0 0) s m args below meth c B D K 3 0 0 (ZI below args s B D K (fun r M1 => M = M1 ∧ Q r)) M 0 [(0, J v0)] [] from ?_)
  refine g_iconst hC dX12_count_0 ?_
  refine g_istore_n hC [(1, J 0), (0, J v0)] dX12_count_1 rfl (by decide) rfl ?_
  refine g_iconst hC dX12_count_2 ?_
  refine g_istore_n hC [(2, J 0), (1, J 0), (0, J v0)] dX12_count_3 rfl (by decide) rfl ?_
  refine g_sub [(0, J v0), (1, J 0), (2, J 0)] [2, 1, 0] rfl ?_
  refine wl2_elim (fun (v1_1 : Int) (v2_2 : Int) => inR v1_1 → inR v2_2 → G p l e (rmF 0 0) s m args below meth c B D K 3 0 0 (ZI below args s B D K (fun r M1 => M = M1 ∧ Q r)) M 4 [(0, J v0), (1, J v1_1), (2, J v2_2)] []) ?_ 5000 0 0 hf (by unfold inR; omega) (by unfold inR; omega)
  intro rec4 ih4 v1_1 v2_2 hf h_v1_1 h_v2_2
  unfold X12_count_b4 at hf
  refine g_iload_n hC 2 dX12_count_4 rfl rfl ?_
  refine g_bipush hC dX12_count_5 (by decide) ?_
  refine g_icmp_ge hC 24 h_v2_2 (by unfold inR; omega) dX12_count_7 rfl (fun c_7 => ?_) (fun c_7 => ?_)
  · replace hf := hf.1 c_7
    refine g_iload_n hC 1 dX12_count_24 rfl rfl ?_
    exact g_reti hC h_v1_1 hM ⟨rfl, hf⟩ dX12_count_25
  · replace hf := hf.2 c_7
    refine g_iload_n hC 1 dX12_count_10 rfl rfl ?_
    refine g_iload_n hC 0 dX12_count_11 rfl rfl ?_
    refine g_iload_n hC 2 dX12_count_12 rfl rfl ?_
    refine g_ishr hC dX12_count_13 ?_
    refine g_iconst hC dX12_count_14 ?_
    refine g_iand hC dX12_count_15 ?_
    refine g_iadd hC dX12_count_16 ?_
    obtain ⟨q_3, hf⟩ := hf
    refine g_nm (fun v1_4 e_v1_4 => ?_)
    replace hf := hf v1_4 e_v1_4
    have h_v1_4 : inR v1_4 := by rw [e_v1_4]; exact q_3
    refine g_istore_n hC [(1, J v1_4), (0, J v0), (2, J v2_2)] dX12_count_17 rfl (by decide) rfl ?_
    obtain ⟨q_6, hf⟩ := hf
    obtain ⟨v2_5, e_v2_5⟩ : ∃ z : Int, z = v2_2 + 1 := ⟨_, rfl⟩
    replace hf := hf v2_5 e_v2_5
    have h_v2_5 : inR v2_5 := by rw [e_v2_5]; exact q_6
    refine g_iincv hC 2 e_v2_5 [(2, J v2_5), (1, J v1_4), (0, J v0)] dX12_count_18 rfl (by decide) rfl ?_
    refine g_goto hC 4 dX12_count_21 rfl ?_
    refine g_sub [(0, J v0), (1, J v1_4), (2, J v2_5)] [2, 1, 0] rfl ?_
    exact ih4 v1_4 v2_5 hf h_v1_4 h_v2_5
set_option maxHeartbeats 4000000 in
set_option maxRecDepth 100000 in
theorem c_X12_refuses (l : Launch) (B : Nat) (D : va_G) (K : Nat → ClassId) (v1 : Int) (i_v1 : inR v1) (M : Mem) (hM : MR M) (Q : Int → Mem → Prop) (hf : f_X12_refuses v1 M Q) : CtI l yX12_refuses cX12_refuses 2 0 0 B D K [.ref (B + 95), J v1] M Q := by
  refine ct_i (by decide) (Nat.le_of_ble_eq_true rfl) ?_
  intro p e s m args below meth c hC
  have hC : Cx p s m args meth c D K cX12_refuses 2 RX12 (some .int) := hC
  unfold f_X12_refuses at hf
  refine (show G p l e (rmF 0 0) s m args below meth c B D K 2 0 0 (ZI below args s B D K Q) M 0 [(0, .ref (B + 95)), (1, J v1)] [] from ?_)
  refine g_aload_n hC 0 dX12_refuses_0 rfl rfl ?_
  refine g_getr hC okX12 sc95 9 (by decide) rfl wf_X12_17 dX12_refuses_1 ?_
  refine g_iload_n hC 1 dX12_refuses_4 rfl rfl ?_
  refine g_dup2 hC dX12_refuses_5 rfl rfl ?_
  obtain ⟨q_1, hf⟩ := hf
  refine g_ialdk (v1.toNat) hC sc97 q_1.1 q_1.2 rfl dX12_refuses_6 ?_
  refine g_iconst hC dX12_refuses_7 ?_
  refine g_iadd hC dX12_refuses_8 ?_
  obtain ⟨q_2, hf⟩ := hf
  refine g_iastk (v1.toNat) hC sc97 q_1.1 q_1.2 rfl dX12_refuses_9 ?_
  refine g_nmM (fun M_3 e_M_3 => ?_)
  replace hf := hf M_3 e_M_3
  have h_M_3 : MR M_3 := by rw [e_M_3]; exact MR_st hM q_2
  refine g_iconst hC dX12_refuses_10 ?_
  exact g_reti hC (by unfold inR; omega) h_M_3 hf dX12_refuses_11
set_option maxHeartbeats 4000000 in
set_option maxRecDepth 100000 in
theorem c_X12_isRefused (l : Launch) (B : Nat) (D : va_G) (K : Nat → ClassId) (v1 : Int) (i_v1 : inR v1) (M : Mem) (hM : MR M) (Q : Int → Mem → Prop) (hf : f_X12_isRefused v1 M Q) : CtZ l yX12_isRefused cX12_isRefused 2 0 0 B D K [.ref (B + 95), J v1] M Q := by
  refine ct_z (by decide) (Nat.le_of_ble_eq_true rfl) ?_
  intro p e s m args below meth c hC
  have hC : Cx p s m args meth c D K cX12_isRefused 2 RX12 (some .boolean) := hC
  unfold f_X12_isRefused at hf
  refine (show G p l e (rmF 0 0) s m args below meth c B D K 2 0 0 (ZZ below args s B D K Q) M 0 [(0, .ref (B + 95)), (1, J v1)] [] from ?_)
  refine g_aload_n hC 0 dX12_isRefused_0 rfl rfl ?_
  refine g_getr hC okX12 sc95 9 (by decide) rfl wf_X12_17 dX12_isRefused_1 ?_
  refine g_iload_n hC 1 dX12_isRefused_4 rfl rfl ?_
  refine g_dup2 hC dX12_isRefused_5 rfl rfl ?_
  obtain ⟨q_1, hf⟩ := hf
  refine g_ialdk (v1.toNat) hC sc97 q_1.1 q_1.2 rfl dX12_isRefused_6 ?_
  refine g_iconst hC dX12_isRefused_7 ?_
  refine g_iadd hC dX12_isRefused_8 ?_
  obtain ⟨q_2, hf⟩ := hf
  refine g_iastk (v1.toNat) hC sc97 q_1.1 q_1.2 rfl dX12_isRefused_9 ?_
  refine g_nmM (fun M_3 e_M_3 => ?_)
  replace hf := hf M_3 e_M_3
  have h_M_3 : MR M_3 := by rw [e_M_3]; exact MR_st hM q_2
  refine g_iconst hC dX12_isRefused_10 ?_
  exact g_retz hC (Or.inl rfl) h_M_3 hf dX12_isRefused_11
set_option maxHeartbeats 4000000 in
set_option maxRecDepth 100000 in
theorem c_X12_feed (l : Launch) (B : Nat) (D : va_G) (K : Nat → ClassId) (v1 : Int) (v2 : Int) (v3 : Int) (v4 : Int) (v5 : Int) (i_v1 : inR v1) (i_v2 : inR v2) (i_v3 : inR v3) (i_v4 : inR v4) (i_v5 : inR v5) (M : Mem) (hM : MR M) (Q : Int → Mem → Prop) (hf : f_X12_feed v1 v2 v3 v4 v5 M Q) : CtI l yX12_feed cX12_feed 8 1 21 B D K [.ref (B + 95), J v1, J v2, J v3, J v4, J v5] M Q := by
  refine ct_i (by decide) (Nat.le_of_ble_eq_true rfl) ?_
  intro p e s m args below meth c hC
  have hC : Cx p s m args meth c D K cX12_feed 8 RX12 (some .int) := hC
  unfold f_X12_feed at hf
  refine (show G p l e (rmF 1 21) s m args below meth c B D K 8 0 0 (ZI below args s B D K Q) M 0 [(0, .ref (B + 95)), (1, J v1), (2, J v2), (3, J v3), (4, J v4), (5, J v5)] [] from ?_)
  refine g_aload_n hC 0 dX12_feed_0 rfl rfl ?_
  refine g_geti hC okX12 sc95 1 (by decide) rfl wf_X12_114 dX12_feed_1 ?_
  refine g_bipush hC dX12_feed_4 (by decide) ?_
  refine g_iadd hC dX12_feed_6 ?_
  refine g_sipush hC dX12_feed_7 (by decide) ?_
  obtain ⟨q_1, hf⟩ := hf
  refine g_icmp_le hC 19 q_1 (by unfold inR; omega) dX12_feed_10 rfl (fun c_18 => ?_) (fun c_18 => ?_)
  · replace hf := hf.1 c_18
    refine g_iconst hC dX12_feed_19 ?_
    refine g_istore hC [(6, J 0), (0, .ref (B + 95)), (1, J v1), (2, J v2), (3, J v3), (4, J v4), (5, J v5)] dX12_feed_20 (by decide) rfl ?_
    refine g_sub [(0, .ref (B + 95)), (1, J v1), (2, J v2), (3, J v3), (4, J v4), (5, J v5), (6, J 0)] [1, 2, 3, 4, 5, 6, 0] rfl ?_
    refine wl2_elim (fun (v6_2 : Int) (M_3 : Mem) => inR v6_2 → MR M_3 → G p l e (rmF 1 21) s m args below meth c B D K 8 0 0 (ZI below args s B D K Q) M_3 22 [(0, .ref (B + 95)), (1, J v1), (2, J v2), (3, J v3), (4, J v4), (5, J v5), (6, J v6_2)] []) ?_ 5000 0 M hf (by unfold inR; omega) hM
    intro rec22 ih22 v6_2 M_3 hf h_v6_2 h_M_3
    unfold X12_feed_b22 at hf
    refine g_iload hC 6 dX12_feed_22 rfl ?_
    refine g_bipush hC dX12_feed_24 (by decide) ?_
    refine g_icmp_ge hC 118 h_v6_2 (by unfold inR; omega) dX12_feed_26 rfl (fun c_15 => ?_) (fun c_15 => ?_)
    · replace hf := hf.1 c_15
      refine g_aload_n hC 0 dX12_feed_118 rfl rfl ?_
      refine g_geti hC okX12 sc95 1 (by decide) rfl wf_X12_114 dX12_feed_119 ?_
      exact g_reti hC (h_M_3 _ _) h_M_3 hf dX12_feed_122
    · replace hf := hf.2 c_15
      refine g_iload hC 6 dX12_feed_29 rfl ?_
      refine g_iconst hC dX12_feed_31 ?_
      refine jn_elim (fun (k : Int → Prop) => ∀ (s0_4 : Int), k s0_4 → (inR s0_4) → G p l e (rmF 1 21) s m args below meth c B D K 8 0 0 (ZI below args s B D K Q) M_3 75 [(0, .ref (B + 95)), (1, J v1), (2, J v2), (3, J v3), (4, J v4), (5, J v5), (6, J v6_2)] [J s0_4]) hf ?_ ?_
      · intro s0_4 hf h_s0_4
        refine g_istore hC [(7, J s0_4), (0, .ref (B + 95)), (1, J v1), (2, J v2), (3, J v3), (4, J v4), (5, J v5), (6, J v6_2)] dX12_feed_75 (by decide) rfl ?_
        refine g_aload_n hC 1 dX12_feed_77 rfl rfl ?_
        refine g_getr hC okX12 sc95 0 (by decide) rfl wf_X12_7 dX12_feed_78 ?_
        refine g_aload_n hC 1 dX12_feed_81 rfl rfl ?_
        refine g_geti hC okX12 sc95 1 (by decide) rfl wf_X12_114 dX12_feed_82 ?_
        refine g_iload hC 0 dX12_feed_85 rfl ?_
        refine g_bipush hC dX12_feed_87 (by decide) ?_
        refine g_iconst hC dX12_feed_89 ?_
        refine g_iload hC 7 dX12_feed_90 rfl ?_
        refine g_iconst hC dX12_feed_92 ?_
        refine g_irem hC h_v6_2 (by unfold inR; omega) (by decide) dX12_feed_93 ?_
        refine g_isub hC dX12_feed_94 ?_
        refine g_imul hC dX12_feed_95 ?_
        refine g_ishr hC dX12_feed_96 ?_
        refine g_sipush hC dX12_feed_97 (by decide) ?_
        refine g_iand hC dX12_feed_100 ?_
        obtain ⟨q_5, hf⟩ := hf
        refine g_iastk ((M_3 95 1).toNat) hC sc96 q_5.1 q_5.2 rfl dX12_feed_101 ?_
        refine g_nmM (fun M_6 e_M_6 => ?_)
        replace hf := hf M_6 e_M_6
        have h_M_6 : MR M_6 := by rw [e_M_6]; exact MR_st h_M_3 (bAnd_in _ _)
        refine g_aload_n hC 1 dX12_feed_102 rfl rfl ?_
        refine g_dup hC dX12_feed_103 rfl ?_
        refine g_geti hC okX12 sc95 1 (by decide) rfl wf_X12_114 dX12_feed_104 ?_
        refine g_iconst hC dX12_feed_107 ?_
        refine g_iadd hC dX12_feed_108 ?_
        obtain ⟨q_7, hf⟩ := hf
        refine g_puti hC okX12 tnX12 sc95 1 (by decide) rfl rfl (by decide) wf_X12_114 dX12_feed_109 ?_
        refine g_nmM (fun M_8 e_M_8 => ?_)
        replace hf := hf M_8 e_M_8
        have h_M_8 : MR M_8 := by rw [e_M_8]; exact MR_st h_M_6 q_7
        obtain ⟨q_10, hf⟩ := hf
        obtain ⟨v6_9, e_v6_9⟩ : ∃ z : Int, z = v6_2 + 1 := ⟨_, rfl⟩
        replace hf := hf v6_9 e_v6_9
        have h_v6_9 : inR v6_9 := by rw [e_v6_9]; exact q_10
        refine g_iincv hC 7 e_v6_9 [(6, J v6_9), (7, J s0_4), (0, .ref (B + 95)), (1, J v1), (2, J v2), (3, J v3), (4, J v4), (5, J v5)] dX12_feed_112 rfl (by decide) rfl ?_
        refine g_goto hC 22 dX12_feed_115 rfl ?_
        refine g_sub [(0, .ref (B + 95)), (1, J v1), (2, J v2), (3, J v3), (4, J v4), (5, J v5), (6, J v6_9)] [2, 3, 4, 5, 6, 7, 0] rfl ?_
        exact ih22 v6_9 M_8 hf h_v6_9 h_M_8
      · intro J75 hJ75 hf
        refine g_icmp_ge hC 39 h_v6_2 (by unfold inR; omega) dX12_feed_32 rfl (fun c_14 => ?_) (fun c_14 => ?_)
        · replace hf := hf.1 c_14
          refine g_iload hC 6 dX12_feed_39 rfl ?_
          refine g_bipush hC dX12_feed_41 (by decide) ?_
          refine g_icmp_ge hC 50 h_v6_2 (by unfold inR; omega) dX12_feed_43 rfl (fun c_13 => ?_) (fun c_13 => ?_)
          · replace hf := hf.1 c_13
            refine g_iload hC 6 dX12_feed_50 rfl ?_
            refine g_bipush hC dX12_feed_52 (by decide) ?_
            refine g_icmp_ge hC 61 h_v6_2 (by unfold inR; omega) dX12_feed_54 rfl (fun c_12 => ?_) (fun c_12 => ?_)
            · replace hf := hf.1 c_12
              refine g_iload hC 6 dX12_feed_61 rfl ?_
              refine g_bipush hC dX12_feed_63 (by decide) ?_
              refine g_icmp_ge hC 73 h_v6_2 (by unfold inR; omega) dX12_feed_65 rfl (fun c_11 => ?_) (fun c_11 => ?_)
              · replace hf := hf.1 c_11
                refine g_iload hC 5 dX12_feed_73 rfl ?_
                refine g_sub [(0, .ref (B + 95)), (1, J v1), (2, J v2), (3, J v3), (4, J v4), (5, J v5), (6, J v6_2)] [0, 1, 2, 3, 4, 5, 6] rfl ?_
                exact hJ75 v5 hf i_v5
              · replace hf := hf.2 c_11
                refine g_iload hC 4 dX12_feed_68 rfl ?_
                refine g_goto hC 75 dX12_feed_70 rfl ?_
                refine g_sub [(0, .ref (B + 95)), (1, J v1), (2, J v2), (3, J v3), (4, J v4), (5, J v5), (6, J v6_2)] [0, 1, 2, 3, 4, 5, 6] rfl ?_
                exact hJ75 v4 hf i_v4
            · replace hf := hf.2 c_12
              refine g_iload_n hC 3 dX12_feed_57 rfl rfl ?_
              refine g_goto hC 75 dX12_feed_58 rfl ?_
              refine g_sub [(0, .ref (B + 95)), (1, J v1), (2, J v2), (3, J v3), (4, J v4), (5, J v5), (6, J v6_2)] [0, 1, 2, 3, 4, 5, 6] rfl ?_
              exact hJ75 v3 hf i_v3
          · replace hf := hf.2 c_13
            refine g_iload_n hC 2 dX12_feed_46 rfl rfl ?_
            refine g_goto hC 75 dX12_feed_47 rfl ?_
            refine g_sub [(0, .ref (B + 95)), (1, J v1), (2, J v2), (3, J v3), (4, J v4), (5, J v5), (6, J v6_2)] [0, 1, 2, 3, 4, 5, 6] rfl ?_
            exact hJ75 v2 hf i_v2
        · replace hf := hf.2 c_14
          refine g_iload_n hC 1 dX12_feed_35 rfl rfl ?_
          refine g_goto hC 75 dX12_feed_36 rfl ?_
          refine g_sub [(0, .ref (B + 95)), (1, J v1), (2, J v2), (3, J v3), (4, J v4), (5, J v5), (6, J v6_2)] [0, 1, 2, 3, 4, 5, 6] rfl ?_
          exact hJ75 v1 hf i_v1
  · replace hf := hf.2 c_18
    refine g_aload_n hC 0 dX12_feed_13 rfl rfl ?_
    refine g_iconst hC dX12_feed_14 ?_
    refine g_callVI hC (sk := []) [J 0] (c_X12_refuses l B D K 0 (by unfold inR; omega) M hM _ hf) yv_X12_refuses wm_X12_117 okX12.1 sc95 rfl ⟨Nat.le_of_ble_eq_true rfl, Nat.le_of_ble_eq_true rfl, Nat.le_of_ble_eq_true rfl, Nat.le_of_ble_eq_true rfl⟩ rfl (Nat.le_of_ble_eq_true rfl) dX12_feed_15 ?_
    intro r_16 M_17 h_r_16 h_M_17 hf
    exact g_reti hC h_r_16 h_M_17 hf dX12_feed_18
set_option maxHeartbeats 4000000 in
set_option maxRecDepth 100000 in
theorem c_X12_end (l : Launch) (B : Nat) (D : va_G) (K : Nat → ClassId) (v1 : Int) (i_v1 : inR v1) (M : Mem) (hM : MR M) (Q : Int → Mem → Prop) (hf : f_X12_end v1 M Q) : CtZ l yX12_end cX12_end 2 1 21 B D K [.ref (B + 95), J v1] M Q := by
  refine ct_z (by decide) (Nat.le_of_ble_eq_true rfl) ?_
  intro p e s m args below meth c hC
  have hC : Cx p s m args meth c D K cX12_end 2 RX12 (some .boolean) := hC
  unfold f_X12_end at hf
  refine (show G p l e (rmF 1 21) s m args below meth c B D K 2 0 0 (ZZ below args s B D K Q) M 0 [(0, .ref (B + 95)), (1, J v1)] [] from ?_)
  refine g_iload_n hC 1 dX12_end_0 rfl rfl ?_
  refine jn_elim (fun (k : Mem → Prop) => ∀ (M_1 : Mem), k M_1 → (MR M_1) → G p l e (rmF 1 21) s m args below meth c B D K 2 0 0 (ZZ below args s B D K Q) M_1 12 [(0, .ref (B + 95))] []) hf ?_ ?_
  · intro M_1 hf h_M_1
    refine g_aload_n hC 0 dX12_end_12 rfl rfl ?_
    refine g_iconst hC dX12_end_13 ?_
    refine g_callVZ hC (sk := []) [J 0] (c_X12_isRefused l B D K 0 (by unfold inR; omega) M_1 h_M_1 _ hf) yv_X12_isRefused wm_X12_121 okX12.1 sc95 rfl ⟨Nat.le_of_ble_eq_true rfl, Nat.le_of_ble_eq_true rfl, Nat.le_of_ble_eq_true rfl, Nat.le_of_ble_eq_true rfl⟩ rfl (Nat.le_of_ble_eq_true rfl) dX12_end_14 ?_
    intro r_2 M_3 h_r_2 h_M_3 hf
    exact g_retz hC h_r_2 h_M_3 hf dX12_end_17
  · intro J12 hJ12 hf
    refine g_if_lt hC 12 i_v1 dX12_end_1 rfl (fun c_6 => ?_) (fun c_6 => ?_)
    · replace hf := hf.1 c_6
      refine g_sub [(0, .ref (B + 95))] [0] rfl ?_
      exact hJ12 M hf hM
    · replace hf := hf.2 c_6
      refine g_iload_n hC 1 dX12_end_4 rfl rfl ?_
      refine g_aload_n hC 0 dX12_end_5 rfl rfl ?_
      refine g_geti hC okX12 sc95 1 (by decide) rfl wf_X12_114 dX12_end_6 ?_
      refine g_icmp_le hC 18 i_v1 (hM _ _) dX12_end_9 rfl (fun c_5 => ?_) (fun c_5 => ?_)
      · replace hf := hf.1 c_5
        refine g_aload_n hC 0 dX12_end_18 rfl rfl ?_
        refine g_iload_n hC 1 dX12_end_19 rfl rfl ?_
        refine g_puti hC okX12 tnX12 sc95 1 (by decide) rfl rfl (by decide) wf_X12_114 dX12_end_20 ?_
        refine g_nmM (fun M_4 e_M_4 => ?_)
        replace hf := hf M_4 e_M_4
        have h_M_4 : MR M_4 := by rw [e_M_4]; exact MR_st hM i_v1
        refine g_iconst hC dX12_end_23 ?_
        exact g_retz hC (Or.inr rfl) h_M_4 hf dX12_end_24
      · replace hf := hf.2 c_5
        refine g_sub [(0, .ref (B + 95))] [0] rfl ?_
        exact hJ12 M hf hM
set_option maxHeartbeats 4000000 in
set_option maxRecDepth 100000 in
theorem c_X12_status (l : Launch) (B : Nat) (D : va_G) (K : Nat → ClassId) (v1 : Int) (i_v1 : inR v1) (M : Mem) (hM : MR M) (Q : Int → Prop) (hf : f_X12_status v1 M Q) : CtI l yX12_status cX12_status 2 1 25 B D K [.ref (B + 95), J v1] M (fun r M1 => M = M1 ∧ Q r) := by
  refine ct_i (by decide) (Nat.le_of_ble_eq_true rfl) ?_
  intro p e s m args below meth c hC
  have hC : Cx p s m args meth c D K cX12_status 2 RX12 (some .int) := hC
  unfold f_X12_status at hf
  refine (show G p l e (rmF 1 25) s m args below meth c B D K 2 0 0 (ZI below args s B D K (fun r M1 => M = M1 ∧ Q r)) M 0 [(0, .ref (B + 95)), (1, J v1)] [] from ?_)
  refine g_iload_n hC 1 dX12_status_0 rfl rfl ?_
  refine g_i2l hC i_v1 dX12_status_1 ?_
  refine g_lconst (n := 0) hC dX12_status_2 (by decide) ?_
  refine g_ldc2 (n := 5) hC wc_X12_125 (by decide) dX12_status_3 ?_
  refine g_callSZ hC (sk := []) [JL v1, JL 0, JL 5] (c_X12_isIn l B D K v1 0 5 (inL_of i_v1) (by unfold inL; omega) (by unfold inL; omega) M hM _ hf) yv_X12_isIn wm_X12_127 rfl ⟨Nat.le_of_ble_eq_true rfl, Nat.le_of_ble_eq_true rfl, Nat.le_of_ble_eq_true rfl, Nat.le_of_ble_eq_true rfl⟩ rfl (Nat.le_of_ble_eq_true rfl) dX12_status_6 ?_
  rintro r_1 M_2 h_r_1 - ⟨rfl, hf⟩
  refine g_if_eq hC 21 (zi_ h_r_1) dX12_status_9 rfl (fun c_4 => ?_) (fun c_4 => ?_)
  · replace hf := hf.1 c_4
    refine g_iconst hC dX12_status_21 ?_
    exact g_reti hC (by unfold inR; omega) hM ⟨rfl, hf⟩ dX12_status_22
  · replace hf := hf.2 c_4
    refine g_aload_n hC 0 dX12_status_12 rfl rfl ?_
    refine g_getr hC okX12 sc95 9 (by decide) rfl wf_X12_17 dX12_status_13 ?_
    refine g_iload_n hC 1 dX12_status_16 rfl rfl ?_
    obtain ⟨q_3, hf⟩ := hf
    refine g_ialdk (v1.toNat) hC sc97 q_3.1 q_3.2 rfl dX12_status_17 ?_
    refine g_goto hC 22 dX12_status_18 rfl ?_
    exact g_reti hC (hM _ _) hM ⟨rfl, hf⟩ dX12_status_22
