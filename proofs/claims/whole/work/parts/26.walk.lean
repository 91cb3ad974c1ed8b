set_option maxHeartbeats 4000000 in
set_option maxRecDepth 100000 in
theorem c_X12_ways (l : Launch) (B : Nat) (D : va_G) (K : Nat → ClassId) (v1 : Int) (v2 : Int) (i_v1 : inR v1) (i_v2 : inR v2) (M : Mem) (hM : MR M) (Q : Int → Mem → Prop) (hf : f_X12_ways v1 v2 M Q) : CtI l yX12_ways cX12_ways 3 7 159 B D K [.ref (B + 95), J v1, J v2] M Q := by
  refine ct_i (by decide) (Nat.le_of_ble_eq_true rfl) ?_
  intro p e s m args below meth c hC
  have hC : Cx p s m args meth c D K cX12_ways 3 RX12 (some .int) := hC
  unfold f_X12_ways at hf
  refine (show G p l e (rmF 7 159) s m args below meth c B D K 3 0 0 (ZI below args s B D K Q) M 0 [(0, .ref (B + 95)), (1, J v1), (2, J v2)] [] from ?_)
  refine g_aload_n hC 0 dX12_ways_0 rfl rfl ?_
  refine g_iload_n hC 1 dX12_ways_1 rfl rfl ?_
  refine g_callVZ hC (sk := []) [J v1] (c_X12_isPlace l B D K v1 i_v1 M hM _ hf) yv_X12_isPlace wm_X12_338 okX12.1 sc95 rfl ⟨Nat.le_of_ble_eq_true rfl, Nat.le_of_ble_eq_true rfl, Nat.le_of_ble_eq_true rfl, Nat.le_of_ble_eq_true rfl⟩ rfl (Nat.le_of_ble_eq_true rfl) dX12_ways_2 ?_
  rintro r_1 M_2 h_r_1 - ⟨rfl, hf⟩
  refine g_if_eq hC 16 (zi_ h_r_1) dX12_ways_5 rfl (fun c_9 => ?_) (fun c_9 => ?_)
  · replace hf := hf.1 c_9
    refine g_iconst hC dX12_ways_16 ?_
    exact g_reti hC (by unfold inR; omega) hM hf dX12_ways_17
  · replace hf := hf.2 c_9
    refine g_aload_n hC 0 dX12_ways_8 rfl rfl ?_
    refine g_iload_n hC 2 dX12_ways_9 rfl rfl ?_
    refine g_callVZ hC (sk := []) [J v2] (c_X12_isPlace l B D K v2 i_v2 M hM _ hf) yv_X12_isPlace wm_X12_338 okX12.1 sc95 rfl ⟨Nat.le_of_ble_eq_true rfl, Nat.le_of_ble_eq_true rfl, Nat.le_of_ble_eq_true rfl, Nat.le_of_ble_eq_true rfl⟩ rfl (Nat.le_of_ble_eq_true rfl) dX12_ways_10 ?_
    rintro r_3 M_4 h_r_3 - ⟨rfl, hf⟩
    refine g_if_ne hC 18 (zi_ h_r_3) dX12_ways_13 rfl (fun c_8 => ?_) (fun c_8 => ?_)
    · replace hf := hf.1 c_8
      refine g_aload_n hC 0 dX12_ways_18 rfl rfl ?_
      refine g_callVV hC (sk := []) [] (c_X12_lays l B D K   M hM _ hf) yv_X12_lays wm_X12_320 okX12.1 sc95 rfl ⟨Nat.le_of_ble_eq_true rfl, Nat.le_of_ble_eq_true rfl, Nat.le_of_ble_eq_true rfl, Nat.le_of_ble_eq_true rfl⟩ rfl (Nat.le_of_ble_eq_true rfl) dX12_ways_19 ?_
      intro M_5 h_M_5 hf
      refine g_aload_n hC 0 dX12_ways_22 rfl rfl ?_
      refine g_iload_n hC 1 dX12_ways_23 rfl rfl ?_
      refine g_callVV hC (sk := []) [J v1] (c_X12_laysWays l B D K v1 i_v1 M_5 h_M_5 _ hf) yv_X12_laysWays wm_X12_361 okX12.1 sc95 rfl ⟨Nat.le_of_ble_eq_true rfl, Nat.le_of_ble_eq_true rfl, Nat.le_of_ble_eq_true rfl, Nat.le_of_ble_eq_true rfl⟩ rfl (Nat.le_of_ble_eq_true rfl) dX12_ways_24 ?_
      intro M_6 h_M_6 hf
      refine g_aload_n hC 0 dX12_ways_27 rfl rfl ?_
      refine g_getr hC okX12 sc95 31 (by decide) rfl wf_X12_75 dX12_ways_28 ?_
      refine g_iload_n hC 2 dX12_ways_31 rfl rfl ?_
      obtain ⟨q_7, hf⟩ := hf
      refine g_laldk (v2.toNat) hC sc116 q_7.1 q_7.2 rfl dX12_ways_32 ?_
      refine g_l2i hC dX12_ways_33 ?_
      exact g_reti hC (h_M_6 _ _) h_M_6 hf dX12_ways_34
    · replace hf := hf.2 c_8
      refine g_iconst hC dX12_ways_16 ?_
      exact g_reti hC (by unfold inR; omega) hM hf dX12_ways_17
set_option maxHeartbeats 4000000 in
set_option maxRecDepth 100000 in
theorem c_X12_laysFar (l : Launch) (B : Nat) (D : va_G) (K : Nat → ClassId) (v1 : Int) (v2 : Int) (i_v1 : inR v1) (i_v2 : inR v2) (M : Mem) (hM : MR M) (Q : Mem → Prop) (hf : f_X12_laysFar v1 v2 M Q) : CtV l yX12_laysFar cX12_laysFar 8 2 43 B D K [.ref (B + 95), J v1, J v2] M Q := by
  refine ct_v (by decide) (Nat.le_of_ble_eq_true rfl) ?_
  intro p e s m args below meth c hC
  have hC : Cx p s m args meth c D K cX12_laysFar 8 RX12 none := hC
  unfold f_X12_laysFar at hf
  refine (show G p l e (rmF 2 43) s m args below meth c B D K 8 0 0 (ZV below args s B D K Q) M 0 [(0, .ref (B + 95)), (1, J v1), (2, J v2)] [] from ?_)
  refine g_iconst hC dX12_laysFar_0 ?_
  refine g_istore_n hC [(3, J 0), (0, .ref (B + 95)), (1, J v1), (2, J v2)] dX12_laysFar_1 rfl (by decide) rfl ?_
  refine jn_elim (fun (k : Mem → Prop) => ∀ (M_1 : Mem), k M_1 → (MR M_1) → G p l e (rmF 2 43) s m args below meth c B D K 8 0 0 (ZV below args s B D K Q) M_1 34 [(0, .ref (B + 95)), (2, J v2)] []) hf ?_ ?_
  · intro M_1 hf h_M_1
    refine g_iconst hC dX12_laysFar_34 ?_
    refine g_istore_n hC [(3, J 0), (0, .ref (B + 95)), (2, J v2)] dX12_laysFar_35 rfl (by decide) rfl ?_
    refine g_sub [(0, .ref (B + 95)), (2, J v2), (3, J 0)] [1, 2, 0] rfl ?_
    refine wl2_elim (fun (v3_2 : Int) (M_3 : Mem) => inR v3_2 → MR M_3 → G p l e (rmF 2 43) s m args below meth c B D K 8 0 0 (ZV below args s B D K Q) M_3 36 [(0, .ref (B + 95)), (2, J v2), (3, J v3_2)] []) ?_ 5000 0 M_1 hf (by unfold inR; omega) h_M_1
    intro rec36 ih36 v3_2 M_3 hf h_v3_2 h_M_3
    unfold X12_laysFar_b36 at hf
    refine g_iload_n hC 2 dX12_laysFar_36 rfl rfl ?_
    refine g_aload_n hC 0 dX12_laysFar_37 rfl rfl ?_
    refine g_callVI hC (sk := [J v3_2]) [] (c_X12_places l B D K   M_3 h_M_3 _ hf) yv_X12_places wm_X12_246 okX12.1 sc95 rfl ⟨Nat.le_of_ble_eq_true rfl, Nat.le_of_ble_eq_true rfl, Nat.le_of_ble_eq_true rfl, Nat.le_of_ble_eq_true rfl⟩ rfl (Nat.le_of_ble_eq_true rfl) dX12_laysFar_38 ?_
    rintro r_4 M_5 h_r_4 - ⟨rfl, hf⟩
    refine g_icmp_ge hC 196 h_v3_2 h_r_4 dX12_laysFar_41 rfl (fun c_42 => ?_) (fun c_42 => ?_)
    · replace hf := hf.1 c_42
      exact g_retv hC h_M_3 hf dX12_laysFar_196
    · replace hf := hf.2 c_42
      refine g_iconst hC dX12_laysFar_44 ?_
      refine g_istore hC [(4, J 0), (0, .ref (B + 95)), (2, J v2), (3, J v3_2)] dX12_laysFar_45 (by decide) rfl ?_
      refine g_sub [(0, .ref (B + 95)), (2, J v2), (3, J v3_2), (4, J 0)] [1, 2, 3, 0] rfl ?_
      refine wl2_elim (fun (v4_6 : Int) (M_7 : Mem) => inR v4_6 → MR M_7 → G p l e (rmF 2 43) s m args below meth c B D K 8 0 0 (ZV below args s B D K Q) M_7 47 [(0, .ref (B + 95)), (2, J v2), (3, J v3_2), (4, J v4_6)] []) ?_ 5000 0 M_3 hf (by unfold inR; omega) h_M_3
      intro rec47 ih47 v4_6 M_7 hf h_v4_6 h_M_7
      unfold X12_laysFar_b47 at hf
      refine g_iload hC 3 dX12_laysFar_47 rfl ?_
      refine g_aload_n hC 0 dX12_laysFar_49 rfl rfl ?_
      refine g_callVI hC (sk := [J v4_6]) [] (c_X12_reaches l B D K   M_7 h_M_7 _ hf) yv_X12_reaches wm_X12_249 okX12.1 sc95 rfl ⟨Nat.le_of_ble_eq_true rfl, Nat.le_of_ble_eq_true rfl, Nat.le_of_ble_eq_true rfl, Nat.le_of_ble_eq_true rfl⟩ rfl (Nat.le_of_ble_eq_true rfl) dX12_laysFar_50 ?_
      rintro r_8 M_9 h_r_8 - ⟨rfl, hf⟩
      refine g_icmp_ge hC 190 h_v4_6 h_r_8 dX12_laysFar_53 rfl (fun c_41 => ?_) (fun c_41 => ?_)
      · replace hf := hf.1 c_41
        obtain ⟨q_11, hf⟩ := hf
        obtain ⟨v3_10, e_v3_10⟩ : ∃ z : Int, z = v3_2 + 1 := ⟨_, rfl⟩
        replace hf := hf v3_10 e_v3_10
        have h_v3_10 : inR v3_10 := by rw [e_v3_10]; exact q_11
        refine g_iincv hC 2 e_v3_10 [(3, J v3_10), (0, .ref (B + 95)), (2, J v2), (4, J v4_6)] dX12_laysFar_190 rfl (by decide) rfl ?_
        refine g_goto hC 36 dX12_laysFar_193 rfl ?_
        refine g_sub [(0, .ref (B + 95)), (2, J v2), (3, J v3_10)] [1, 2, 0] rfl ?_
        exact ih36 v3_10 M_7 hf h_v3_10 h_M_7
      · replace hf := hf.2 c_41
        refine g_aload_n hC 0 dX12_laysFar_56 rfl rfl ?_
        refine g_iload hC 3 dX12_laysFar_57 rfl ?_
        refine g_iconst hC dX12_laysFar_59 ?_
        refine g_callVI hC (sk := []) [J v4_6, J 0] (c_X12_its l B D K v4_6 0 h_v4_6 (by unfold inR; omega) M_7 h_M_7 _ hf) yv_X12_its wm_X12_252 okX12.1 sc95 rfl ⟨Nat.le_of_ble_eq_true rfl, Nat.le_of_ble_eq_true rfl, Nat.le_of_ble_eq_true rfl, Nat.le_of_ble_eq_true rfl⟩ rfl (Nat.le_of_ble_eq_true rfl) dX12_laysFar_60 ?_
        rintro r_12 M_13 h_r_12 - ⟨rfl, hf⟩
        refine g_istore hC [(5, J r_12), (0, .ref (B + 95)), (2, J v2), (3, J v3_2), (4, J v4_6)] dX12_laysFar_63 (by decide) rfl ?_
        refine g_aload_n hC 1 dX12_laysFar_65 rfl rfl ?_
        refine g_iload hC 4 dX12_laysFar_66 rfl ?_
        refine g_iconst hC dX12_laysFar_68 ?_
        refine g_callVI hC (sk := []) [J v4_6, J 1] (c_X12_its l B D K v4_6 1 h_v4_6 (by unfold inR; omega) M_7 h_M_7 _ hf) yv_X12_its wm_X12_252 okX12.1 sc95 rfl ⟨Nat.le_of_ble_eq_true rfl, Nat.le_of_ble_eq_true rfl, Nat.le_of_ble_eq_true rfl, Nat.le_of_ble_eq_true rfl⟩ rfl (Nat.le_of_ble_eq_true rfl) dX12_laysFar_69 ?_
        rintro r_14 M_15 h_r_14 - ⟨rfl, hf⟩
        refine g_aload_n hC 1 dX12_laysFar_72 rfl rfl ?_
        refine g_getr hC okX12 sc95 16 (by decide) rfl wf_X12_30 dX12_laysFar_73 ?_
        refine g_iload_n hC 3 dX12_laysFar_76 rfl rfl ?_
        obtain ⟨q_16, hf⟩ := hf
        refine g_ialdk (v3_2.toNat) hC sc101 q_16.1 q_16.2 rfl dX12_laysFar_77 ?_
        refine g_icmp_ne hC 184 h_r_14 (h_M_7 _ _) dX12_laysFar_78 rfl (fun c_40 => ?_) (fun c_40 => ?_)
        · replace hf := hf.1 c_40
          obtain ⟨q_18, hf⟩ := hf
          obtain ⟨v4_17, e_v4_17⟩ : ∃ z : Int, z = v4_6 + 1 := ⟨_, rfl⟩
          replace hf := hf v4_17 e_v4_17
          have h_v4_17 : inR v4_17 := by rw [e_v4_17]; exact q_18
          refine g_iincv hC 4 e_v4_17 [(4, J v4_17), (5, J r_12), (0, .ref (B + 95)), (2, J v2), (3, J v3_2)] dX12_laysFar_184 rfl (by decide) rfl ?_
          refine g_goto hC 47 dX12_laysFar_187 rfl ?_
          refine g_sub [(0, .ref (B + 95)), (2, J v2), (3, J v3_2), (4, J v4_17)] [2, 3, 4, 0] rfl ?_
          exact ih47 v4_17 M_7 hf h_v4_17 h_M_7
        · replace hf := hf.2 c_40
          refine g_aload_n hC 1 dX12_laysFar_81 rfl rfl ?_
          refine g_getr hC okX12 sc95 31 (by decide) rfl wf_X12_75 dX12_laysFar_82 ?_
          refine g_iload hC 0 dX12_laysFar_85 rfl ?_
          obtain ⟨q_19, hf⟩ := hf
          refine g_laldk (r_12.toNat) hC sc116 q_19.1 q_19.2 rfl dX12_laysFar_87 ?_
          refine g_lconst (n := 0) hC dX12_laysFar_88 (by decide) ?_
          refine g_lcmp hC (inL_of (h_M_7 _ _)) (by unfold inL; omega) dX12_laysFar_89 ?_
          refine g_if_ge hC 96 (cmpI_in _ _) dX12_laysFar_90 rfl (fun c_39 => ?_) (fun c_39 => ?_)
          · replace hf := hf.1 c_39
            refine g_aload_n hC 1 dX12_laysFar_96 rfl rfl ?_
            refine g_getr hC okX12 sc95 31 (by decide) rfl wf_X12_75 dX12_laysFar_97 ?_
            refine g_iload hC 0 dX12_laysFar_100 rfl ?_
            refine g_laldk (r_12.toNat) hC sc116 q_19.1 q_19.2 rfl dX12_laysFar_102 ?_
            refine g_aload_n hC 1 dX12_laysFar_103 rfl rfl ?_
            refine g_iload hC 4 dX12_laysFar_104 rfl ?_
            refine g_iconst hC dX12_laysFar_106 ?_
            refine g_callVI hC (sk := [JL (M_7 116 (r_12.toNat))]) [J v4_6, J 2] (c_X12_its l B D K v4_6 2 h_v4_6 (by unfold inR; omega) M_7 h_M_7 _ hf) yv_X12_its wm_X12_252 okX12.1 sc95 rfl ⟨Nat.le_of_ble_eq_true rfl, Nat.le_of_ble_eq_true rfl, Nat.le_of_ble_eq_true rfl, Nat.le_of_ble_eq_true rfl⟩ rfl (Nat.le_of_ble_eq_true rfl) dX12_laysFar_107 ?_
            rintro r_20 M_21 h_r_20 - ⟨rfl, hf⟩
            refine g_i2l hC h_r_20 dX12_laysFar_110 ?_
            refine g_ladd hC dX12_laysFar_111 ?_
            obtain ⟨q_22, hf⟩ := hf
            refine g_nml (fun v6_23 e_v6_23 => ?_)
            replace hf := hf v6_23 e_v6_23
            have h_v6_23 : inL v6_23 := by rw [e_v6_23]; exact q_22
            refine g_lstore hC [(6, JL v6_23), (5, J r_12), (0, .ref (B + 95)), (2, J v2), (3, J v3_2), (4, J v4_6)] dX12_laysFar_112 (by decide) rfl ?_
            refine g_aload_n hC 2 dX12_laysFar_114 rfl rfl ?_
            refine g_getr hC okX12 sc95 31 (by decide) rfl wf_X12_75 dX12_laysFar_115 ?_
            refine g_aload_n hC 2 dX12_laysFar_118 rfl rfl ?_
            refine g_getr hC okX12 sc95 16 (by decide) rfl wf_X12_30 dX12_laysFar_119 ?_
            refine g_iload_n hC 4 dX12_laysFar_122 rfl rfl ?_
            refine g_ialdk (v3_2.toNat) hC sc101 q_16.1 q_16.2 rfl dX12_laysFar_123 ?_
            obtain ⟨q_24, hf⟩ := hf
            refine g_laldk ((M_7 101 (v3_2.toNat)).toNat) hC sc116 q_24.1 q_24.2 rfl dX12_laysFar_124 ?_
            refine g_lconst (n := 0) hC dX12_laysFar_125 (by decide) ?_
            refine g_lcmp hC (inL_of (h_M_7 _ _)) (by unfold inL; omega) dX12_laysFar_126 ?_
            refine jn_elim (fun (k : Prop) => k → G p l e (rmF 2 43) s m args below meth c B D K 8 0 0 (ZV below args s B D K Q) M_7 171 [(0, .ref (B + 95)), (2, J v2), (3, J v3_2), (4, J v4_6), (6, JL v6_23)] []) hf ?_ ?_
            · intro hf
              refine g_aload_n hC 0 dX12_laysFar_171 rfl rfl ?_
              refine g_getr hC okX12 sc95 31 (by decide) rfl wf_X12_75 dX12_laysFar_172 ?_
              refine g_aload_n hC 0 dX12_laysFar_175 rfl rfl ?_
              refine g_getr hC okX12 sc95 16 (by decide) rfl wf_X12_30 dX12_laysFar_176 ?_
              refine g_iload_n hC 2 dX12_laysFar_179 rfl rfl ?_
              refine g_ialdk (v3_2.toNat) hC sc101 q_16.1 q_16.2 rfl dX12_laysFar_180 ?_
              refine g_lload hC 4 dX12_laysFar_181 rfl ?_
              obtain ⟨q_25, hf⟩ := hf
              refine g_lastk ((M_7 101 (v3_2.toNat)).toNat) hC sc116 q_24.1 q_24.2 rfl dX12_laysFar_183 ?_
              refine g_nmM (fun M_26 e_M_26 => ?_)
              replace hf := hf M_26 e_M_26
              have h_M_26 : MR M_26 := by rw [e_M_26]; exact MR_st h_M_7 q_25
              obtain ⟨q_28, hf⟩ := hf
              obtain ⟨v4_27, e_v4_27⟩ : ∃ z : Int, z = v4_6 + 1 := ⟨_, rfl⟩
              replace hf := hf v4_27 e_v4_27
              have h_v4_27 : inR v4_27 := by rw [e_v4_27]; exact q_28
              refine g_iincv hC 3 e_v4_27 [(4, J v4_27), (0, .ref (B + 95)), (2, J v2), (3, J v3_2), (6, JL v6_23)] dX12_laysFar_184 rfl (by decide) rfl ?_
              refine g_goto hC 47 dX12_laysFar_187 rfl ?_
              refine g_sub [(0, .ref (B + 95)), (2, J v2), (3, J v3_2), (4, J v4_27)] [1, 2, 3, 0] rfl ?_
              exact ih47 v4_27 M_26 hf h_v4_27 h_M_26
            · intro J171 hJ171 hf
              refine g_if_lt hC 171 (cmpI_in _ _) dX12_laysFar_127 rfl (fun c_36 => ?_) (fun c_36 => ?_)
              · replace hf := hf.1 c_36
                refine g_sub [(0, .ref (B + 95)), (2, J v2), (3, J v3_2), (4, J v4_6), (6, JL v6_23)] [2, 3, 4, 5, 0] rfl ?_
                exact hJ171 hf
              · replace hf := hf.2 c_36
                refine g_iload_n hC 3 dX12_laysFar_130 rfl rfl ?_
                refine g_if_eq hC 154 i_v2 dX12_laysFar_131 rfl (fun c_35 => ?_) (fun c_35 => ?_)
                · replace hf := hf.1 c_35
                  refine g_lload hC 0 dX12_laysFar_154 rfl ?_
                  refine g_aload_n hC 2 dX12_laysFar_156 rfl rfl ?_
                  refine g_getr hC okX12 sc95 31 (by decide) rfl wf_X12_75 dX12_laysFar_157 ?_
                  refine g_aload_n hC 2 dX12_laysFar_160 rfl rfl ?_
                  refine g_getr hC okX12 sc95 16 (by decide) rfl wf_X12_30 dX12_laysFar_161 ?_
                  refine g_iload_n hC 4 dX12_laysFar_164 rfl rfl ?_
                  refine g_ialdk (v3_2.toNat) hC sc101 q_16.1 q_16.2 rfl dX12_laysFar_165 ?_
                  refine g_laldk ((M_7 101 (v3_2.toNat)).toNat) hC sc116 q_24.1 q_24.2 rfl dX12_laysFar_166 ?_
                  refine g_lcmp hC h_v6_23 (inL_of (h_M_7 _ _)) dX12_laysFar_167 ?_
                  refine g_if_ge hC 184 (cmpI_in _ _) dX12_laysFar_168 rfl (fun c_31 => ?_) (fun c_31 => ?_)
                  · replace hf := hf.1 c_31
                    obtain ⟨q_30, hf⟩ := hf
                    obtain ⟨v4_29, e_v4_29⟩ : ∃ z : Int, z = v4_6 + 1 := ⟨_, rfl⟩
                    replace hf := hf v4_29 e_v4_29
                    have h_v4_29 : inR v4_29 := by rw [e_v4_29]; exact q_30
                    refine g_iincv hC 5 e_v4_29 [(4, J v4_29), (6, JL v6_23), (5, J r_12), (0, .ref (B + 95)), (2, J v2), (3, J v3_2)] dX12_laysFar_184 rfl (by decide) rfl ?_
                    refine g_goto hC 47 dX12_laysFar_187 rfl ?_
                    refine g_sub [(0, .ref (B + 95)), (2, J v2), (3, J v3_2), (4, J v4_29)] [3, 4, 5, 0] rfl ?_
                    exact ih47 v4_29 M_7 hf h_v4_29 h_M_7
                  · replace hf := hf.2 c_31
                    refine g_sub [(0, .ref (B + 95)), (2, J v2), (3, J v3_2), (4, J v4_6), (6, JL v6_23)] [2, 3, 4, 5, 0] rfl ?_
                    exact hJ171 hf
                · replace hf := hf.2 c_35
                  refine g_lload hC 0 dX12_laysFar_134 rfl ?_
                  refine g_aload_n hC 2 dX12_laysFar_136 rfl rfl ?_
                  refine g_getr hC okX12 sc95 31 (by decide) rfl wf_X12_75 dX12_laysFar_137 ?_
                  refine g_aload_n hC 2 dX12_laysFar_140 rfl rfl ?_
                  refine g_getr hC okX12 sc95 16 (by decide) rfl wf_X12_30 dX12_laysFar_141 ?_
                  refine g_iload_n hC 4 dX12_laysFar_144 rfl rfl ?_
                  refine g_ialdk (v3_2.toNat) hC sc101 q_16.1 q_16.2 rfl dX12_laysFar_145 ?_
                  refine g_laldk ((M_7 101 (v3_2.toNat)).toNat) hC sc116 q_24.1 q_24.2 rfl dX12_laysFar_146 ?_
                  refine g_lcmp hC h_v6_23 (inL_of (h_M_7 _ _)) dX12_laysFar_147 ?_
                  refine g_if_le hC 184 (cmpI_in _ _) dX12_laysFar_148 rfl (fun c_34 => ?_) (fun c_34 => ?_)
                  · replace hf := hf.1 c_34
                    obtain ⟨q_33, hf⟩ := hf
                    obtain ⟨v4_32, e_v4_32⟩ : ∃ z : Int, z = v4_6 + 1 := ⟨_, rfl⟩
                    replace hf := hf v4_32 e_v4_32
                    have h_v4_32 : inR v4_32 := by rw [e_v4_32]; exact q_33
                    refine g_iincv hC 5 e_v4_32 [(4, J v4_32), (6, JL v6_23), (5, J r_12), (0, .ref (B + 95)), (2, J v2), (3, J v3_2)] dX12_laysFar_184 rfl (by decide) rfl ?_
                    refine g_goto hC 47 dX12_laysFar_187 rfl ?_
                    refine g_sub [(0, .ref (B + 95)), (2, J v2), (3, J v3_2), (4, J v4_32)] [3, 4, 5, 0] rfl ?_
                    exact ih47 v4_32 M_7 hf h_v4_32 h_M_7
                  · replace hf := hf.2 c_34
                    refine g_goto hC 171 dX12_laysFar_151 rfl ?_
                    refine g_sub [(0, .ref (B + 95)), (2, J v2), (3, J v3_2), (4, J v4_6), (6, JL v6_23)] [2, 3, 4, 5, 0] rfl ?_
                    exact hJ171 hf
          · replace hf := hf.2 c_39
            refine g_goto hC 184 dX12_laysFar_93 rfl ?_
            obtain ⟨q_38, hf⟩ := hf
            obtain ⟨v4_37, e_v4_37⟩ : ∃ z : Int, z = v4_6 + 1 := ⟨_, rfl⟩
            replace hf := hf v4_37 e_v4_37
            have h_v4_37 : inR v4_37 := by rw [e_v4_37]; exact q_38
            refine g_iincv hC 4 e_v4_37 [(4, J v4_37), (5, J r_12), (0, .ref (B + 95)), (2, J v2), (3, J v3_2)] dX12_laysFar_184 rfl (by decide) rfl ?_
            refine g_goto hC 47 dX12_laysFar_187 rfl ?_
            refine g_sub [(0, .ref (B + 95)), (2, J v2), (3, J v3_2), (4, J v4_37)] [2, 3, 4, 0] rfl ?_
            exact ih47 v4_37 M_7 hf h_v4_37 h_M_7
  · intro J34 hJ34 hf
    refine g_sub [(0, .ref (B + 95)), (1, J v1), (2, J v2), (3, J 0)] [1, 2, 3, 0] rfl ?_
    refine wl2_elim (fun (v3_43 : Int) (M_44 : Mem) => inR v3_43 → MR M_44 → G p l e (rmF 2 43) s m args below meth c B D K 8 0 0 (ZV below args s B D K Q) M_44 2 [(0, .ref (B + 95)), (1, J v1), (2, J v2), (3, J v3_43)] []) ?_ 5000 0 M hf (by unfold inR; omega) hM
    intro rec2 ih2 v3_43 M_44 hf h_v3_43 h_M_44
    unfold X12_laysFar_b2 at hf
    refine g_iload_n hC 3 dX12_laysFar_2 rfl rfl ?_
    refine g_aload_n hC 0 dX12_laysFar_3 rfl rfl ?_
    refine g_callVI hC (sk := [J v3_43]) [] (c_X12_places l B D K   M_44 h_M_44 _ hf) yv_X12_places wm_X12_246 okX12.1 sc95 rfl ⟨Nat.le_of_ble_eq_true rfl, Nat.le_of_ble_eq_true rfl, Nat.le_of_ble_eq_true rfl, Nat.le_of_ble_eq_true rfl⟩ rfl (Nat.le_of_ble_eq_true rfl) dX12_laysFar_4 ?_
    rintro r_45 M_46 h_r_45 - ⟨rfl, hf⟩
    refine g_icmp_ge hC 34 h_v3_43 h_r_45 dX12_laysFar_7 rfl (fun c_56 => ?_) (fun c_56 => ?_)
    · replace hf := hf.1 c_56
      refine g_sub [(0, .ref (B + 95)), (2, J v2)] [0, 2] rfl ?_
      exact hJ34 M_44 hf h_M_44
    · replace hf := hf.2 c_56
      refine g_aload_n hC 0 dX12_laysFar_10 rfl rfl ?_
      refine g_getr hC okX12 sc95 31 (by decide) rfl wf_X12_75 dX12_laysFar_11 ?_
      refine g_iload_n hC 3 dX12_laysFar_14 rfl rfl ?_
      refine g_iload_n hC 3 dX12_laysFar_15 rfl rfl ?_
      refine g_iload_n hC 1 dX12_laysFar_16 rfl rfl ?_
      refine g_icmp_ne hC 24 h_v3_43 i_v1 dX12_laysFar_17 rfl (fun c_55 => ?_) (fun c_55 => ?_)
      · replace hf := hf.1 c_55
        refine g_ldc2 (n := (-1)) hC wc_X12_364 (by decide) dX12_laysFar_24 ?_
        obtain ⟨q_47, hf⟩ := hf
        refine g_lastk (v3_43.toNat) hC sc116 q_47.1 q_47.2 rfl dX12_laysFar_27 ?_
        refine g_nmM (fun M_48 e_M_48 => ?_)
        replace hf := hf M_48 e_M_48
        have h_M_48 : MR M_48 := by rw [e_M_48]; exact MR_st h_M_44 (by unfold inR; omega)
        obtain ⟨q_50, hf⟩ := hf
        obtain ⟨v3_49, e_v3_49⟩ : ∃ z : Int, z = v3_43 + 1 := ⟨_, rfl⟩
        replace hf := hf v3_49 e_v3_49
        have h_v3_49 : inR v3_49 := by rw [e_v3_49]; exact q_50
        refine g_iincv hC 3 e_v3_49 [(3, J v3_49), (0, .ref (B + 95)), (1, J v1), (2, J v2)] dX12_laysFar_28 rfl (by decide) rfl ?_
        refine g_goto hC 2 dX12_laysFar_31 rfl ?_
        refine g_sub [(0, .ref (B + 95)), (1, J v1), (2, J v2), (3, J v3_49)] [1, 2, 3, 0] rfl ?_
        exact ih2 v3_49 M_48 hf h_v3_49 h_M_48
      · replace hf := hf.2 c_55
        refine g_lconst (n := 0) hC dX12_laysFar_20 (by decide) ?_
        refine g_goto hC 27 dX12_laysFar_21 rfl ?_
        obtain ⟨q_51, hf⟩ := hf
        refine g_lastk (v3_43.toNat) hC sc116 q_51.1 q_51.2 rfl dX12_laysFar_27 ?_
        refine g_nmM (fun M_52 e_M_52 => ?_)
        replace hf := hf M_52 e_M_52
        have h_M_52 : MR M_52 := by rw [e_M_52]; exact MR_st h_M_44 (by unfold inR; omega)
        obtain ⟨q_54, hf⟩ := hf
        obtain ⟨v3_53, e_v3_53⟩ : ∃ z : Int, z = v3_43 + 1 := ⟨_, rfl⟩
        replace hf := hf v3_53 e_v3_53
        have h_v3_53 : inR v3_53 := by rw [e_v3_53]; exact q_54
        refine g_iincv hC 3 e_v3_53 [(3, J v3_53), (0, .ref (B + 95)), (1, J v1), (2, J v2)] dX12_laysFar_28 rfl (by decide) rfl ?_
        refine g_goto hC 2 dX12_laysFar_31 rfl ?_
        refine g_sub [(0, .ref (B + 95)), (1, J v1), (2, J v2), (3, J v3_53)] [1, 2, 3, 0] rfl ?_
        exact ih2 v3_53 M_52 hf h_v3_53 h_M_52
set_option maxHeartbeats 4000000 in
set_option maxRecDepth 100000 in
theorem c_X12_far (l : Launch) (B : Nat) (D : va_G) (K : Nat → ClassId) (v1 : Int) (v2 : Int) (v3 : Int) (i_v1 : inR v1) (i_v2 : inR v2) (i_v3 : inR v3) (M : Mem) (hM : MR M) (Q : Int → Mem → Prop) (hf : f_X12_far v1 v2 v3 M Q) : CtI l yX12_far cX12_far 4 7 159 B D K [.ref (B + 95), J v1, J v2, J v3] M Q := by
  refine ct_i (by decide) (Nat.le_of_ble_eq_true rfl) ?_
  intro p e s m args below meth c hC
  have hC : Cx p s m args meth c D K cX12_far 4 RX12 (some .int) := hC
  unfold f_X12_far at hf
  refine (show G p l e (rmF 7 159) s m args below meth c B D K 4 0 0 (ZI below args s B D K Q) M 0 [(0, .ref (B + 95)), (1, J v1), (2, J v2), (3, J v3)] [] from ?_)
  refine g_aload_n hC 0 dX12_far_0 rfl rfl ?_
  refine g_iload_n hC 1 dX12_far_1 rfl rfl ?_
  refine g_callVZ hC (sk := []) [J v1] (c_X12_isPlace l B D K v1 i_v1 M hM _ hf) yv_X12_isPlace wm_X12_338 okX12.1 sc95 rfl ⟨Nat.le_of_ble_eq_true rfl, Nat.le_of_ble_eq_true rfl, Nat.le_of_ble_eq_true rfl, Nat.le_of_ble_eq_true rfl⟩ rfl (Nat.le_of_ble_eq_true rfl) dX12_far_2 ?_
  rintro r_1 M_2 h_r_1 - ⟨rfl, hf⟩
  refine g_if_eq hC 26 (zi_ h_r_1) dX12_far_5 rfl (fun c_14 => ?_) (fun c_14 => ?_)
  · replace hf := hf.1 c_14
    refine g_iconst hC dX12_far_26 ?_
    exact g_reti hC (by unfold inR; omega) hM hf dX12_far_27
  · replace hf := hf.2 c_14
    refine g_aload_n hC 0 dX12_far_8 rfl rfl ?_
    refine g_iload_n hC 2 dX12_far_9 rfl rfl ?_
    refine g_callVZ hC (sk := []) [J v2] (c_X12_isPlace l B D K v2 i_v2 M hM _ hf) yv_X12_isPlace wm_X12_338 okX12.1 sc95 rfl ⟨Nat.le_of_ble_eq_true rfl, Nat.le_of_ble_eq_true rfl, Nat.le_of_ble_eq_true rfl, Nat.le_of_ble_eq_true rfl⟩ rfl (Nat.le_of_ble_eq_true rfl) dX12_far_10 ?_
    rintro r_3 M_4 h_r_3 - ⟨rfl, hf⟩
    refine g_if_eq hC 26 (zi_ h_r_3) dX12_far_13 rfl (fun c_13 => ?_) (fun c_13 => ?_)
    · replace hf := hf.1 c_13
      refine g_iconst hC dX12_far_26 ?_
      exact g_reti hC (by unfold inR; omega) hM hf dX12_far_27
    · replace hf := hf.2 c_13
      refine g_iload_n hC 3 dX12_far_16 rfl rfl ?_
      refine g_i2l hC i_v3 dX12_far_17 ?_
      refine g_lconst (n := 0) hC dX12_far_18 (by decide) ?_
      refine g_lconst (n := 1) hC dX12_far_19 (by decide) ?_
      refine g_callSZ hC (sk := []) [JL v3, JL 0, JL 1] (c_X12_isIn l B D K v3 0 1 (inL_of i_v3) (by unfold inL; omega) (by unfold inL; omega) M hM _ hf) yv_X12_isIn wm_X12_127 rfl ⟨Nat.le_of_ble_eq_true rfl, Nat.le_of_ble_eq_true rfl, Nat.le_of_ble_eq_true rfl, Nat.le_of_ble_eq_true rfl⟩ rfl (Nat.le_of_ble_eq_true rfl) dX12_far_20 ?_
      rintro r_5 M_6 h_r_5 - ⟨rfl, hf⟩
      refine g_if_ne hC 28 (zi_ h_r_5) dX12_far_23 rfl (fun c_12 => ?_) (fun c_12 => ?_)
      · replace hf := hf.1 c_12
        refine g_aload_n hC 0 dX12_far_28 rfl rfl ?_
        refine g_callVV hC (sk := []) [] (c_X12_lays l B D K   M hM _ hf) yv_X12_lays wm_X12_320 okX12.1 sc95 rfl ⟨Nat.le_of_ble_eq_true rfl, Nat.le_of_ble_eq_true rfl, Nat.le_of_ble_eq_true rfl, Nat.le_of_ble_eq_true rfl⟩ rfl (Nat.le_of_ble_eq_true rfl) dX12_far_29 ?_
        intro M_7 h_M_7 hf
        refine g_aload_n hC 0 dX12_far_32 rfl rfl ?_
        refine g_iload_n hC 1 dX12_far_33 rfl rfl ?_
        refine g_iload_n hC 3 dX12_far_34 rfl rfl ?_
        refine g_iconst hC dX12_far_35 ?_
        refine jn_elim (fun (k : Int → Prop) => ∀ (s2_8 : Int), k s2_8 → ((s2_8 = 0 ∨ s2_8 = 1)) → G p l e (rmF 7 159) s m args below meth c B D K 4 0 0 (ZI below args s B D K Q) M_7 44 [(0, .ref (B + 95)), (2, J v2)] [J s2_8, J v1, .ref (B + 95)]) hf ?_ ?_
        · intro s2_8 hf h_s2_8
          refine g_callVV hC (sk := []) [J v1, J s2_8] (c_X12_laysFar l B D K v1 s2_8 i_v1 (zi_ h_s2_8) M_7 h_M_7 _ hf) yv_X12_laysFar wm_X12_366 okX12.1 sc95 rfl ⟨Nat.le_of_ble_eq_true rfl, Nat.le_of_ble_eq_true rfl, Nat.le_of_ble_eq_true rfl, Nat.le_of_ble_eq_true rfl⟩ rfl (Nat.le_of_ble_eq_true rfl) dX12_far_44 ?_
          intro M_9 h_M_9 hf
          refine g_aload_n hC 0 dX12_far_47 rfl rfl ?_
          refine g_getr hC okX12 sc95 31 (by decide) rfl wf_X12_75 dX12_far_48 ?_
          refine g_iload_n hC 1 dX12_far_51 rfl rfl ?_
          obtain ⟨q_10, hf⟩ := hf
          refine g_laldk (v2.toNat) hC sc116 q_10.1 q_10.2 rfl dX12_far_52 ?_
          refine g_l2i hC dX12_far_53 ?_
          exact g_reti hC (h_M_9 _ _) h_M_9 hf dX12_far_54
        · intro J44 hJ44 hf
          refine g_icmp_ne hC 43 i_v3 (by unfold inR; omega) dX12_far_36 rfl (fun c_11 => ?_) (fun c_11 => ?_)
          · replace hf := hf.1 c_11
            refine g_iconst hC dX12_far_43 ?_
            refine g_sub [(0, .ref (B + 95)), (2, J v2)] [0, 2] rfl ?_
            exact hJ44 0 hf (Or.inl rfl)
          · replace hf := hf.2 c_11
            refine g_iconst hC dX12_far_39 ?_
            refine g_goto hC 44 dX12_far_40 rfl ?_
            refine g_sub [(0, .ref (B + 95)), (2, J v2)] [0, 2] rfl ?_
            exact hJ44 1 hf (Or.inr rfl)
      · replace hf := hf.2 c_12
        refine g_iconst hC dX12_far_26 ?_
        exact g_reti hC (by unfold inR; omega) hM hf dX12_far_27
set_option maxHeartbeats 4000000 in
set_option maxRecDepth 100000 in
theorem c_X12_waters (l : Launch) (B : Nat) (D : va_G) (K : Nat → ClassId) (v1 : Int) (v2 : Int) (i_v1 : inR v1) (i_v2 : inR v2) (M : Mem) (hM : MR M) (Q : Int → Mem → Prop) (hf : f_X12_waters v1 v2 M Q) : CtI l yX12_waters cX12_waters 5 7 159 B D K [.ref (B + 95), J v1, J v2] M Q := by
  refine ct_i (by decide) (Nat.le_of_ble_eq_true rfl) ?_
  intro p e s m args below meth c hC
  have hC : Cx p s m args meth c D K cX12_waters 5 RX12 (some .int) := hC
  unfold f_X12_waters at hf
  refine (show G p l e (rmF 7 159) s m args below meth c B D K 5 0 0 (ZI below args s B D K Q) M 0 [(0, .ref (B + 95)), (1, J v1), (2, J v2)] [] from ?_)
  refine g_aload_n hC 0 dX12_waters_0 rfl rfl ?_
  refine g_iload_n hC 1 dX12_waters_1 rfl rfl ?_
  refine g_callVZ hC (sk := []) [J v1] (c_X12_isPlace l B D K v1 i_v1 M hM _ hf) yv_X12_isPlace wm_X12_338 okX12.1 sc95 rfl ⟨Nat.le_of_ble_eq_true rfl, Nat.le_of_ble_eq_true rfl, Nat.le_of_ble_eq_true rfl, Nat.le_of_ble_eq_true rfl⟩ rfl (Nat.le_of_ble_eq_true rfl) dX12_waters_2 ?_
  rintro r_1 M_2 h_r_1 - ⟨rfl, hf⟩
  refine g_if_eq hC 16 (zi_ h_r_1) dX12_waters_5 rfl (fun c_23 => ?_) (fun c_23 => ?_)
  · replace hf := hf.1 c_23
    refine g_iconst hC dX12_waters_16 ?_
    exact g_reti hC (by unfold inR; omega) hM hf dX12_waters_17
  · replace hf := hf.2 c_23
    refine g_aload_n hC 0 dX12_waters_8 rfl rfl ?_
    refine g_iload_n hC 2 dX12_waters_9 rfl rfl ?_
    refine g_callVZ hC (sk := []) [J v2] (c_X12_isPlace l B D K v2 i_v2 M hM _ hf) yv_X12_isPlace wm_X12_338 okX12.1 sc95 rfl ⟨Nat.le_of_ble_eq_true rfl, Nat.le_of_ble_eq_true rfl, Nat.le_of_ble_eq_true rfl, Nat.le_of_ble_eq_true rfl⟩ rfl (Nat.le_of_ble_eq_true rfl) dX12_waters_10 ?_
    rintro r_3 M_4 h_r_3 - ⟨rfl, hf⟩
    refine g_if_ne hC 18 (zi_ h_r_3) dX12_waters_13 rfl (fun c_22 => ?_) (fun c_22 => ?_)
    · replace hf := hf.1 c_22
      refine g_aload_n hC 0 dX12_waters_18 rfl rfl ?_
      refine g_callVV hC (sk := []) [] (c_X12_lays l B D K   M hM _ hf) yv_X12_lays wm_X12_320 okX12.1 sc95 rfl ⟨Nat.le_of_ble_eq_true rfl, Nat.le_of_ble_eq_true rfl, Nat.le_of_ble_eq_true rfl, Nat.le_of_ble_eq_true rfl⟩ rfl (Nat.le_of_ble_eq_true rfl) dX12_waters_19 ?_
      intro M_5 h_M_5 hf
      refine g_aload_n hC 0 dX12_waters_22 rfl rfl ?_
      refine g_getr hC okX12 sc95 19 (by decide) rfl wf_X12_39 dX12_waters_23 ?_
      refine g_iload_n hC 1 dX12_waters_26 rfl rfl ?_
      obtain ⟨q_6, hf⟩ := hf
      refine g_ialdk (v1.toNat) hC sc104 q_6.1 q_6.2 rfl dX12_waters_27 ?_
      refine g_iconst hC dX12_waters_28 ?_
      refine g_iload_n hC 1 dX12_waters_29 rfl rfl ?_
      refine g_ishl hC dX12_waters_30 ?_
      refine g_ior hC dX12_waters_31 ?_
      refine g_aload_n hC 0 dX12_waters_32 rfl rfl ?_
      refine g_getr hC okX12 sc95 19 (by decide) rfl wf_X12_39 dX12_waters_33 ?_
      refine g_iload_n hC 2 dX12_waters_36 rfl rfl ?_
      obtain ⟨q_7, hf⟩ := hf
      refine g_ialdk (v2.toNat) hC sc104 q_7.1 q_7.2 rfl dX12_waters_37 ?_
      refine g_iconst hC dX12_waters_38 ?_
      refine g_iload_n hC 2 dX12_waters_39 rfl rfl ?_
      refine g_ishl hC dX12_waters_40 ?_
      refine g_ior hC dX12_waters_41 ?_
      refine g_iand hC dX12_waters_42 ?_
      refine g_nm (fun v3_8 e_v3_8 => ?_)
      replace hf := hf v3_8 e_v3_8
      have h_v3_8 : inR v3_8 := by rw [e_v3_8]; exact (bAnd_in _ _)
      refine g_istore_n hC [(3, J v3_8), (0, .ref (B + 95)), (1, J v1), (2, J v2)] dX12_waters_43 rfl (by decide) rfl ?_
      refine g_iconst hC dX12_waters_44 ?_
      refine g_istore hC [(4, J 0), (3, J v3_8), (0, .ref (B + 95)), (1, J v1), (2, J v2)] dX12_waters_45 (by decide) rfl ?_
      refine g_sub [(0, .ref (B + 95)), (3, J v3_8), (4, J 0)] [2, 1, 0] rfl ?_
      refine wl1_elim (fun (v4_9 : Int) => inR v4_9 → G p l e (rmF 7 159) s m args below meth c B D K 5 0 0 (ZI below args s B D K Q) M_5 47 [(0, .ref (B + 95)), (3, J v3_8), (4, J v4_9)] []) ?_ 5000 0 hf (by unfold inR; omega)
      intro rec47 ih47 v4_9 hf h_v4_9
      unfold X12_waters_b47 at hf
      refine g_iload hC 2 dX12_waters_47 rfl ?_
      refine g_aload_n hC 0 dX12_waters_49 rfl rfl ?_
      refine g_callVI hC (sk := [J v4_9]) [] (c_X12_places l B D K   M_5 h_M_5 _ hf) yv_X12_places wm_X12_246 okX12.1 sc95 rfl ⟨Nat.le_of_ble_eq_true rfl, Nat.le_of_ble_eq_true rfl, Nat.le_of_ble_eq_true rfl, Nat.le_of_ble_eq_true rfl⟩ rfl (Nat.le_of_ble_eq_true rfl) dX12_waters_50 ?_
      rintro r_10 M_11 h_r_10 - ⟨rfl, hf⟩
      refine g_icmp_ge hC 86 h_v4_9 h_r_10 dX12_waters_53 rfl (fun c_21 => ?_) (fun c_21 => ?_)
      · replace hf := hf.1 c_21
        refine g_iconst hC dX12_waters_86 ?_
        exact g_reti hC (by unfold inR; omega) h_M_5 hf dX12_waters_87
      · replace hf := hf.2 c_21
        refine g_iload_n hC 1 dX12_waters_56 rfl rfl ?_
        refine g_iload hC 2 dX12_waters_57 rfl ?_
        refine g_callSZ hC (sk := []) [J v3_8, J v4_9] (c_X12_isOf l B D K v3_8 v4_9 h_v3_8 h_v4_9 M_5 h_M_5 _ hf) yv_X12_isOf wm_X12_187 rfl ⟨Nat.le_of_ble_eq_true rfl, Nat.le_of_ble_eq_true rfl, Nat.le_of_ble_eq_true rfl, Nat.le_of_ble_eq_true rfl⟩ rfl (Nat.le_of_ble_eq_true rfl) dX12_waters_59 ?_
        rintro r_12 M_13 h_r_12 - ⟨rfl, hf⟩
        refine g_if_eq hC 80 (zi_ h_r_12) dX12_waters_62 rfl (fun c_20 => ?_) (fun c_20 => ?_)
        · replace hf := hf.1 c_20
          obtain ⟨q_15, hf⟩ := hf
          obtain ⟨v4_14, e_v4_14⟩ : ∃ z : Int, z = v4_9 + 1 := ⟨_, rfl⟩
          replace hf := hf v4_14 e_v4_14
          have h_v4_14 : inR v4_14 := by rw [e_v4_14]; exact q_15
          refine g_iincv hC 2 e_v4_14 [(4, J v4_14), (0, .ref (B + 95)), (3, J v3_8)] dX12_waters_80 rfl (by decide) rfl ?_
          refine g_goto hC 47 dX12_waters_83 rfl ?_
          refine g_sub [(0, .ref (B + 95)), (3, J v3_8), (4, J v4_14)] [1, 2, 0] rfl ?_
          exact ih47 v4_14 hf h_v4_14
        · replace hf := hf.2 c_20
          refine g_aload_n hC 0 dX12_waters_65 rfl rfl ?_
          refine g_getr hC okX12 sc95 20 (by decide) rfl wf_X12_42 dX12_waters_66 ?_
          refine g_iload hC 2 dX12_waters_69 rfl ?_
          obtain ⟨q_16, hf⟩ := hf
          refine g_ialdk (v4_9.toNat) hC sc105 q_16.1 q_16.2 rfl dX12_waters_71 ?_
          refine g_iload_n hC 1 dX12_waters_72 rfl rfl ?_
          refine g_iand hC dX12_waters_73 ?_
          refine g_if_ne hC 80 (bAnd_in _ _) dX12_waters_74 rfl (fun c_19 => ?_) (fun c_19 => ?_)
          · replace hf := hf.1 c_19
            obtain ⟨q_18, hf⟩ := hf
            obtain ⟨v4_17, e_v4_17⟩ : ∃ z : Int, z = v4_9 + 1 := ⟨_, rfl⟩
            replace hf := hf v4_17 e_v4_17
            have h_v4_17 : inR v4_17 := by rw [e_v4_17]; exact q_18
            refine g_iincv hC 2 e_v4_17 [(4, J v4_17), (0, .ref (B + 95)), (3, J v3_8)] dX12_waters_80 rfl (by decide) rfl ?_
            refine g_goto hC 47 dX12_waters_83 rfl ?_
            refine g_sub [(0, .ref (B + 95)), (3, J v3_8), (4, J v4_17)] [1, 2, 0] rfl ?_
            exact ih47 v4_17 hf h_v4_17
          · replace hf := hf.2 c_19
            refine g_iload hC 2 dX12_waters_77 rfl ?_
            exact g_reti hC h_v4_9 h_M_5 hf dX12_waters_79
    · replace hf := hf.2 c_22
      refine g_iconst hC dX12_waters_16 ?_
      exact g_reti hC (by unfold inR; omega) hM hf dX12_waters_17
set_option maxHeartbeats 4000000 in
set_option maxRecDepth 100000 in
theorem c_X12_laysThrough (l : Launch) (B : Nat) (D : va_G) (K : Nat → ClassId)   (M : Mem) (hM : MR M) (Q : Mem → Prop) (hf : f_X12_laysThrough  M Q) : CtV l yX12_laysThrough cX12_laysThrough 5 2 43 B D K [.ref (B + 95)] M Q := by
  refine ct_v (by decide) (Nat.le_of_ble_eq_true rfl) ?_
  intro p e s m args below meth c hC
  have hC : Cx p s m args meth c D K cX12_laysThrough 5 RX12 none := hC
  unfold f_X12_laysThrough at hf
  refine (show G p l e (rmF 2 43) s m args below meth c B D K 5 0 0 (ZV below args s B D K Q) M 0 [(0, .ref (B + 95))] [] from ?_)
  refine g_aload_n hC 0 dX12_laysThrough_0 rfl rfl ?_
  refine g_callVI hC (sk := []) [] (c_X12_places l B D K   M hM _ hf) yv_X12_places wm_X12_246 okX12.1 sc95 rfl ⟨Nat.le_of_ble_eq_true rfl, Nat.le_of_ble_eq_true rfl, Nat.le_of_ble_eq_true rfl, Nat.le_of_ble_eq_true rfl⟩ rfl (Nat.le_of_ble_eq_true rfl) dX12_laysThrough_1 ?_
  rintro r_1 M_2 h_r_1 - ⟨rfl, hf⟩
  refine g_iconst hC dX12_laysThrough_4 ?_
  refine g_isub hC dX12_laysThrough_5 ?_
  obtain ⟨q_3, hf⟩ := hf
  refine g_nm (fun v1_4 e_v1_4 => ?_)
  replace hf := hf v1_4 e_v1_4
  have h_v1_4 : inR v1_4 := by rw [e_v1_4]; exact q_3
  refine g_istore_n hC [(1, J v1_4), (0, .ref (B + 95))] dX12_laysThrough_6 rfl (by decide) rfl ?_
  refine g_sub [(0, .ref (B + 95)), (1, J v1_4)] [1, 0] rfl ?_
  refine wl2_elim (fun (v1_5 : Int) (M_6 : Mem) => inR v1_5 → MR M_6 → G p l e (rmF 2 43) s m args below meth c B D K 5 0 0 (ZV below args s B D K Q) M_6 7 [(0, .ref (B + 95)), (1, J v1_5)] []) ?_ 5000 v1_4 M hf h_v1_4 hM
  intro rec7 ih7 v1_5 M_6 hf h_v1_5 h_M_6
  unfold X12_laysThrough_b7 at hf
  refine g_iload_n hC 1 dX12_laysThrough_7 rfl rfl ?_
  refine g_if_lt hC 94 h_v1_5 dX12_laysThrough_8 rfl (fun c_34 => ?_) (fun c_34 => ?_)
  · replace hf := hf.1 c_34
    exact g_retv hC h_M_6 hf dX12_laysThrough_94
  · replace hf := hf.2 c_34
    refine g_aload_n hC 0 dX12_laysThrough_11 rfl rfl ?_
    refine g_getr hC okX12 sc95 16 (by decide) rfl wf_X12_30 dX12_laysThrough_12 ?_
    refine g_iload_n hC 1 dX12_laysThrough_15 rfl rfl ?_
    obtain ⟨q_7, hf⟩ := hf
    refine g_ialdk (v1_5.toNat) hC sc101 q_7.1 q_7.2 rfl dX12_laysThrough_16 ?_
    refine g_nm (fun v2_8 e_v2_8 => ?_)
    replace hf := hf v2_8 e_v2_8
    have h_v2_8 : inR v2_8 := by rw [e_v2_8]; exact (h_M_6 _ _)
    refine g_istore_n hC [(2, J v2_8), (0, .ref (B + 95)), (1, J v1_5)] dX12_laysThrough_17 rfl (by decide) rfl ?_
    refine g_iconst hC dX12_laysThrough_18 ?_
    refine g_istore_n hC [(3, J (-1)), (2, J v2_8), (0, .ref (B + 95)), (1, J v1_5)] dX12_laysThrough_19 rfl (by decide) rfl ?_
    refine g_iconst hC dX12_laysThrough_20 ?_
    refine g_istore hC [(4, J 0), (3, J (-1)), (2, J v2_8), (0, .ref (B + 95)), (1, J v1_5)] dX12_laysThrough_21 (by decide) rfl ?_
    refine jn_elim (fun (k : Int → Prop) => ∀ (v3_9 : Int), k v3_9 → (inR v3_9) → G p l e (rmF 2 43) s m args below meth c B D K 5 0 0 (ZV below args s B D K Q) M_6 64 [(0, .ref (B + 95)), (1, J v1_5), (2, J v2_8), (3, J v3_9)] []) hf ?_ ?_
    · intro v3_9 hf h_v3_9
      refine g_aload_n hC 0 dX12_laysThrough_64 rfl rfl ?_
      refine g_getr hC okX12 sc95 32 (by decide) rfl wf_X12_79 dX12_laysThrough_65 ?_
      refine g_iload_n hC 2 dX12_laysThrough_68 rfl rfl ?_
      refine g_aload_n hC 0 dX12_laysThrough_69 rfl rfl ?_
      refine g_getr hC okX12 sc95 18 (by decide) rfl wf_X12_36 dX12_laysThrough_70 ?_
      refine g_iload_n hC 2 dX12_laysThrough_73 rfl rfl ?_
      obtain ⟨q_10, hf⟩ := hf
      refine g_ialdk (v2_8.toNat) hC sc103 q_10.1 q_10.2 rfl dX12_laysThrough_74 ?_
      refine g_if_ne hC 82 (h_M_6 _ _) dX12_laysThrough_75 rfl (fun c_17 => ?_) (fun c_17 => ?_)
      · replace hf := hf.1 c_17
        refine g_iload_n hC 3 dX12_laysThrough_82 rfl rfl ?_
        refine g_iconst hC dX12_laysThrough_83 ?_
        refine g_iload_n hC 2 dX12_laysThrough_84 rfl rfl ?_
        refine g_ishl hC dX12_laysThrough_85 ?_
        refine g_ior hC dX12_laysThrough_86 ?_
        refine g_iastk (v2_8.toNat) hC sc117 q_10.1 q_10.2 rfl dX12_laysThrough_87 ?_
        refine g_nmM (fun M_11 e_M_11 => ?_)
        replace hf := hf M_11 e_M_11
        have h_M_11 : MR M_11 := by rw [e_M_11]; exact MR_st h_M_6 (bOr_in _ _)
        obtain ⟨q_13, hf⟩ := hf
        obtain ⟨v1_12, e_v1_12⟩ : ∃ z : Int, z = v1_5 + (-1) := ⟨_, rfl⟩
        replace hf := hf v1_12 e_v1_12
        have h_v1_12 : inR v1_12 := by rw [e_v1_12]; exact q_13
        refine g_iincv hC 1 e_v1_12 [(1, J v1_12), (0, .ref (B + 95)), (2, J v2_8), (3, J v3_9)] dX12_laysThrough_88 rfl (by decide) rfl ?_
        refine g_goto hC 7 dX12_laysThrough_91 rfl ?_
        refine g_sub [(0, .ref (B + 95)), (1, J v1_12)] [1, 0] rfl ?_
        exact ih7 v1_12 M_11 hf h_v1_12 h_M_11
      · replace hf := hf.2 c_17
        refine g_iconst hC dX12_laysThrough_78 ?_
        refine g_goto hC 83 dX12_laysThrough_79 rfl ?_
        refine g_iconst hC dX12_laysThrough_83 ?_
        refine g_iload_n hC 2 dX12_laysThrough_84 rfl rfl ?_
        refine g_ishl hC dX12_laysThrough_85 ?_
        refine g_ior hC dX12_laysThrough_86 ?_
        refine g_iastk (v2_8.toNat) hC sc117 q_10.1 q_10.2 rfl dX12_laysThrough_87 ?_
        refine g_nmM (fun M_14 e_M_14 => ?_)
        replace hf := hf M_14 e_M_14
        have h_M_14 : MR M_14 := by rw [e_M_14]; exact MR_st h_M_6 (bOr_in _ _)
        obtain ⟨q_16, hf⟩ := hf
        obtain ⟨v1_15, e_v1_15⟩ : ∃ z : Int, z = v1_5 + (-1) := ⟨_, rfl⟩
        replace hf := hf v1_15 e_v1_15
        have h_v1_15 : inR v1_15 := by rw [e_v1_15]; exact q_16
        refine g_iincv hC 1 e_v1_15 [(1, J v1_15), (0, .ref (B + 95)), (2, J v2_8), (3, J v3_9)] dX12_laysThrough_88 rfl (by decide) rfl ?_
        refine g_goto hC 7 dX12_laysThrough_91 rfl ?_
        refine g_sub [(0, .ref (B + 95)), (1, J v1_15)] [1, 0] rfl ?_
        exact ih7 v1_15 M_14 hf h_v1_15 h_M_14
    · intro J64 hJ64 hf
      refine g_sub [(0, .ref (B + 95)), (1, J v1_5), (2, J v2_8), (3, J (-1)), (4, J 0)] [3, 4, 2, 1, 0] rfl ?_
      refine wl2_elim (fun (v3_18 : Int) (v4_19 : Int) => inR v3_18 → inR v4_19 → G p l e (rmF 2 43) s m args below meth c B D K 5 0 0 (ZV below args s B D K Q) M_6 23 [(0, .ref (B + 95)), (1, J v1_5), (2, J v2_8), (3, J v3_18), (4, J v4_19)] []) ?_ 5000 (-1) 0 hf (by unfold inR; omega) (by unfold inR; omega)
      intro rec23 ih23 v3_18 v4_19 hf h_v3_18 h_v4_19
      unfold X12_laysThrough_b23 at hf
      refine g_iload hC 4 dX12_laysThrough_23 rfl ?_
      refine g_aload_n hC 0 dX12_laysThrough_25 rfl rfl ?_
      refine g_callVI hC (sk := [J v4_19]) [] (c_X12_reaches l B D K   M_6 h_M_6 _ hf) yv_X12_reaches wm_X12_249 okX12.1 sc95 rfl ⟨Nat.le_of_ble_eq_true rfl, Nat.le_of_ble_eq_true rfl, Nat.le_of_ble_eq_true rfl, Nat.le_of_ble_eq_true rfl⟩ rfl (Nat.le_of_ble_eq_true rfl) dX12_laysThrough_26 ?_
      rintro r_20 M_21 h_r_20 - ⟨rfl, hf⟩
      refine g_icmp_ge hC 64 h_v4_19 h_r_20 dX12_laysThrough_29 rfl (fun c_33 => ?_) (fun c_33 => ?_)
      · replace hf := hf.1 c_33
        refine g_sub [(0, .ref (B + 95)), (1, J v1_5), (2, J v2_8), (3, J v3_18)] [0, 1, 2, 3] rfl ?_
        exact hJ64 v3_18 hf h_v3_18
      · replace hf := hf.2 c_33
        refine g_aload_n hC 0 dX12_laysThrough_32 rfl rfl ?_
        refine g_iload hC 4 dX12_laysThrough_33 rfl ?_
        refine g_iconst hC dX12_laysThrough_35 ?_
        refine g_callVI hC (sk := []) [J v4_19, J 0] (c_X12_its l B D K v4_19 0 h_v4_19 (by unfold inR; omega) M_6 h_M_6 _ hf) yv_X12_its wm_X12_252 okX12.1 sc95 rfl ⟨Nat.le_of_ble_eq_true rfl, Nat.le_of_ble_eq_true rfl, Nat.le_of_ble_eq_true rfl, Nat.le_of_ble_eq_true rfl⟩ rfl (Nat.le_of_ble_eq_true rfl) dX12_laysThrough_36 ?_
        rintro r_22 M_23 h_r_22 - ⟨rfl, hf⟩
        refine g_iload_n hC 2 dX12_laysThrough_39 rfl rfl ?_
        refine g_icmp_ne hC 58 h_r_22 h_v2_8 dX12_laysThrough_40 rfl (fun c_32 => ?_) (fun c_32 => ?_)
        · replace hf := hf.1 c_32
          obtain ⟨q_25, hf⟩ := hf
          obtain ⟨v4_24, e_v4_24⟩ : ∃ z : Int, z = v4_19 + 1 := ⟨_, rfl⟩
          replace hf := hf v4_24 e_v4_24
          have h_v4_24 : inR v4_24 := by rw [e_v4_24]; exact q_25
          refine g_iincv hC 4 e_v4_24 [(4, J v4_24), (0, .ref (B + 95)), (1, J v1_5), (2, J v2_8), (3, J v3_18)] dX12_laysThrough_58 rfl (by decide) rfl ?_
          refine g_goto hC 23 dX12_laysThrough_61 rfl ?_
          refine g_sub [(0, .ref (B + 95)), (1, J v1_5), (2, J v2_8), (3, J v3_18), (4, J v4_24)] [1, 2, 3, 4, 0] rfl ?_
          exact ih23 v3_18 v4_24 hf h_v3_18 h_v4_24
        · replace hf := hf.2 c_32
          refine g_iload_n hC 3 dX12_laysThrough_43 rfl rfl ?_
          refine g_aload_n hC 0 dX12_laysThrough_44 rfl rfl ?_
          refine g_getr hC okX12 sc95 32 (by decide) rfl wf_X12_79 dX12_laysThrough_45 ?_
          refine g_aload_n hC 0 dX12_laysThrough_48 rfl rfl ?_
          refine g_iload hC 4 dX12_laysThrough_49 rfl ?_
          refine g_iconst hC dX12_laysThrough_51 ?_
          refine g_callVI hC (sk := [.ref (B + 117), J v3_18]) [J v4_19, J 1] (c_X12_its l B D K v4_19 1 h_v4_19 (by unfold inR; omega) M_6 h_M_6 _ hf) yv_X12_its wm_X12_252 okX12.1 sc95 rfl ⟨Nat.le_of_ble_eq_true rfl, Nat.le_of_ble_eq_true rfl, Nat.le_of_ble_eq_true rfl, Nat.le_of_ble_eq_true rfl⟩ rfl (Nat.le_of_ble_eq_true rfl) dX12_laysThrough_52 ?_
          rintro r_26 M_27 h_r_26 - ⟨rfl, hf⟩
          obtain ⟨q_28, hf⟩ := hf
          refine g_ialdk (r_26.toNat) hC sc117 q_28.1 q_28.2 rfl dX12_laysThrough_55 ?_
          refine g_iand hC dX12_laysThrough_56 ?_
          refine g_nm (fun v3_29 e_v3_29 => ?_)
          replace hf := hf v3_29 e_v3_29
          have h_v3_29 : inR v3_29 := by rw [e_v3_29]; exact (bAnd_in _ _)
          refine g_istore_n hC [(3, J v3_29), (0, .ref (B + 95)), (1, J v1_5), (2, J v2_8), (4, J v4_19)] dX12_laysThrough_57 rfl (by decide) rfl ?_
          obtain ⟨q_31, hf⟩ := hf
          obtain ⟨v4_30, e_v4_30⟩ : ∃ z : Int, z = v4_19 + 1 := ⟨_, rfl⟩
          replace hf := hf v4_30 e_v4_30
          have h_v4_30 : inR v4_30 := by rw [e_v4_30]; exact q_31
          refine g_iincv hC 4 e_v4_30 [(4, J v4_30), (3, J v3_29), (0, .ref (B + 95)), (1, J v1_5), (2, J v2_8)] dX12_laysThrough_58 rfl (by decide) rfl ?_
          refine g_goto hC 23 dX12_laysThrough_61 rfl ?_
          refine g_sub [(0, .ref (B + 95)), (1, J v1_5), (2, J v2_8), (3, J v3_29), (4, J v4_30)] [2, 3, 4, 1, 0] rfl ?_
          exact ih23 v3_29 v4_30 hf h_v3_29 h_v4_30
set_option maxHeartbeats 4000000 in
set_option maxRecDepth 100000 in
theorem c_X12_braid (l : Launch) (B : Nat) (D : va_G) (K : Nat → ClassId) (v1 : Int) (i_v1 : inR v1) (M : Mem) (hM : MR M) (Q : Int → Mem → Prop) (hf : f_X12_braid v1 M Q) : CtI l yX12_braid cX12_braid 4 7 159 B D K [.ref (B + 95), J v1] M Q := by
  refine ct_i (by decide) (Nat.le_of_ble_eq_true rfl) ?_
  intro p e s m args below meth c hC
  have hC : Cx p s m args meth c D K cX12_braid 4 RX12 (some .int) := hC
  unfold f_X12_braid at hf
  refine (show G p l e (rmF 7 159) s m args below meth c B D K 4 0 0 (ZI below args s B D K Q) M 0 [(0, .ref (B + 95)), (1, J v1)] [] from ?_)
  refine g_aload_n hC 0 dX12_braid_0 rfl rfl ?_
  refine g_iload_n hC 1 dX12_braid_1 rfl rfl ?_
  refine g_callVZ hC (sk := []) [J v1] (c_X12_isPlace l B D K v1 i_v1 M hM _ hf) yv_X12_isPlace wm_X12_338 okX12.1 sc95 rfl ⟨Nat.le_of_ble_eq_true rfl, Nat.le_of_ble_eq_true rfl, Nat.le_of_ble_eq_true rfl, Nat.le_of_ble_eq_true rfl⟩ rfl (Nat.le_of_ble_eq_true rfl) dX12_braid_2 ?_
  rintro r_1 M_2 h_r_1 - ⟨rfl, hf⟩
  refine g_if_ne hC 10 (zi_ h_r_1) dX12_braid_5 rfl (fun c_21 => ?_) (fun c_21 => ?_)
  · replace hf := hf.1 c_21
    refine g_aload_n hC 0 dX12_braid_10 rfl rfl ?_
    refine g_callVV hC (sk := []) [] (c_X12_lays l B D K   M hM _ hf) yv_X12_lays wm_X12_320 okX12.1 sc95 rfl ⟨Nat.le_of_ble_eq_true rfl, Nat.le_of_ble_eq_true rfl, Nat.le_of_ble_eq_true rfl, Nat.le_of_ble_eq_true rfl⟩ rfl (Nat.le_of_ble_eq_true rfl) dX12_braid_11 ?_
    intro M_3 h_M_3 hf
    refine g_aload_n hC 0 dX12_braid_14 rfl rfl ?_
    refine g_getr hC okX12 sc95 18 (by decide) rfl wf_X12_36 dX12_braid_15 ?_
    refine g_iload_n hC 1 dX12_braid_18 rfl rfl ?_
    obtain ⟨q_4, hf⟩ := hf
    refine g_ialdk (v1.toNat) hC sc103 q_4.1 q_4.2 rfl dX12_braid_19 ?_
    refine g_iconst hC dX12_braid_20 ?_
    refine g_icmp_ge hC 26 (h_M_3 _ _) (by unfold inR; omega) dX12_braid_21 rfl (fun c_20 => ?_) (fun c_20 => ?_)
    · replace hf := hf.1 c_20
      refine g_aload_n hC 0 dX12_braid_26 rfl rfl ?_
      refine g_callVV hC (sk := []) [] (c_X12_laysThrough l B D K   M_3 h_M_3 _ hf) yv_X12_laysThrough wm_X12_370 okX12.1 sc95 rfl ⟨Nat.le_of_ble_eq_true rfl, Nat.le_of_ble_eq_true rfl, Nat.le_of_ble_eq_true rfl, Nat.le_of_ble_eq_true rfl⟩ rfl (Nat.le_of_ble_eq_true rfl) dX12_braid_27 ?_
      intro M_5 h_M_5 hf
      refine g_aload_n hC 0 dX12_braid_30 rfl rfl ?_
      refine g_getr hC okX12 sc95 32 (by decide) rfl wf_X12_79 dX12_braid_31 ?_
      refine g_iload_n hC 1 dX12_braid_34 rfl rfl ?_
      refine g_ialdk (v1.toNat) hC sc117 q_4.1 q_4.2 rfl dX12_braid_35 ?_
      refine g_iconst hC dX12_braid_36 ?_
      refine g_iload_n hC 1 dX12_braid_37 rfl rfl ?_
      refine g_ishl hC dX12_braid_38 ?_
      refine g_iconst hC dX12_braid_39 ?_
      refine g_ixor hC dX12_braid_40 ?_
      refine g_iand hC dX12_braid_41 ?_
      refine g_nm (fun v2_6 e_v2_6 => ?_)
      replace hf := hf v2_6 e_v2_6
      have h_v2_6 : inR v2_6 := by rw [e_v2_6]; exact (bAnd_in _ _)
      refine g_istore_n hC [(2, J v2_6), (0, .ref (B + 95)), (1, J v1)] dX12_braid_42 rfl (by decide) rfl ?_
      refine g_iconst hC dX12_braid_43 ?_
      refine g_istore_n hC [(3, J 0), (2, J v2_6), (0, .ref (B + 95)), (1, J v1)] dX12_braid_44 rfl (by decide) rfl ?_
      refine g_sub [(0, .ref (B + 95)), (2, J v2_6), (3, J 0)] [2, 1, 0] rfl ?_
      refine wl1_elim (fun (v3_7 : Int) => inR v3_7 → G p l e (rmF 7 159) s m args below meth c B D K 4 0 0 (ZI below args s B D K Q) M_5 45 [(0, .ref (B + 95)), (2, J v2_6), (3, J v3_7)] []) ?_ 5000 0 hf (by unfold inR; omega)
      intro rec45 ih45 v3_7 hf h_v3_7
      unfold X12_braid_b45 at hf
      refine g_iload_n hC 2 dX12_braid_45 rfl rfl ?_
      refine g_aload_n hC 0 dX12_braid_46 rfl rfl ?_
      refine g_callVI hC (sk := [J v3_7]) [] (c_X12_places l B D K   M_5 h_M_5 _ hf) yv_X12_places wm_X12_246 okX12.1 sc95 rfl ⟨Nat.le_of_ble_eq_true rfl, Nat.le_of_ble_eq_true rfl, Nat.le_of_ble_eq_true rfl, Nat.le_of_ble_eq_true rfl⟩ rfl (Nat.le_of_ble_eq_true rfl) dX12_braid_47 ?_
      rintro r_8 M_9 h_r_8 - ⟨rfl, hf⟩
      refine g_icmp_ge hC 80 h_v3_7 h_r_8 dX12_braid_50 rfl (fun c_19 => ?_) (fun c_19 => ?_)
      · replace hf := hf.1 c_19
        refine g_iconst hC dX12_braid_80 ?_
        exact g_reti hC (by unfold inR; omega) h_M_5 hf dX12_braid_81
      · replace hf := hf.2 c_19
        refine g_iload_n hC 1 dX12_braid_53 rfl rfl ?_
        refine g_iload_n hC 2 dX12_braid_54 rfl rfl ?_
        refine g_callSZ hC (sk := []) [J v2_6, J v3_7] (c_X12_isOf l B D K v2_6 v3_7 h_v2_6 h_v3_7 M_5 h_M_5 _ hf) yv_X12_isOf wm_X12_187 rfl ⟨Nat.le_of_ble_eq_true rfl, Nat.le_of_ble_eq_true rfl, Nat.le_of_ble_eq_true rfl, Nat.le_of_ble_eq_true rfl⟩ rfl (Nat.le_of_ble_eq_true rfl) dX12_braid_55 ?_
        rintro r_10 M_11 h_r_10 - ⟨rfl, hf⟩
        refine g_if_eq hC 74 (zi_ h_r_10) dX12_braid_58 rfl (fun c_18 => ?_) (fun c_18 => ?_)
        · replace hf := hf.1 c_18
          obtain ⟨q_13, hf⟩ := hf
          obtain ⟨v3_12, e_v3_12⟩ : ∃ z : Int, z = v3_7 + 1 := ⟨_, rfl⟩
          replace hf := hf v3_12 e_v3_12
          have h_v3_12 : inR v3_12 := by rw [e_v3_12]; exact q_13
          refine g_iincv hC 2 e_v3_12 [(3, J v3_12), (0, .ref (B + 95)), (2, J v2_6)] dX12_braid_74 rfl (by decide) rfl ?_
          refine g_goto hC 45 dX12_braid_77 rfl ?_
          refine g_sub [(0, .ref (B + 95)), (2, J v2_6), (3, J v3_12)] [1, 2, 0] rfl ?_
          exact ih45 v3_12 hf h_v3_12
        · replace hf := hf.2 c_18
          refine g_aload_n hC 0 dX12_braid_61 rfl rfl ?_
          refine g_getr hC okX12 sc95 20 (by decide) rfl wf_X12_42 dX12_braid_62 ?_
          refine g_iload_n hC 2 dX12_braid_65 rfl rfl ?_
          obtain ⟨q_14, hf⟩ := hf
          refine g_ialdk (v3_7.toNat) hC sc105 q_14.1 q_14.2 rfl dX12_braid_66 ?_
          refine g_iload_n hC 1 dX12_braid_67 rfl rfl ?_
          refine g_iand hC dX12_braid_68 ?_
          refine g_if_ne hC 74 (bAnd_in _ _) dX12_braid_69 rfl (fun c_17 => ?_) (fun c_17 => ?_)
          · replace hf := hf.1 c_17
            obtain ⟨q_16, hf⟩ := hf
            obtain ⟨v3_15, e_v3_15⟩ : ∃ z : Int, z = v3_7 + 1 := ⟨_, rfl⟩
            replace hf := hf v3_15 e_v3_15
            have h_v3_15 : inR v3_15 := by rw [e_v3_15]; exact q_16
            refine g_iincv hC 2 e_v3_15 [(3, J v3_15), (0, .ref (B + 95)), (2, J v2_6)] dX12_braid_74 rfl (by decide) rfl ?_
            refine g_goto hC 45 dX12_braid_77 rfl ?_
            refine g_sub [(0, .ref (B + 95)), (2, J v2_6), (3, J v3_15)] [1, 2, 0] rfl ?_
            exact ih45 v3_15 hf h_v3_15
          · replace hf := hf.2 c_17
            refine g_iload_n hC 2 dX12_braid_72 rfl rfl ?_
            exact g_reti hC h_v3_7 h_M_5 hf dX12_braid_73
    · replace hf := hf.2 c_20
      refine g_iconst hC dX12_braid_24 ?_
      exact g_reti hC (by unfold inR; omega) h_M_3 hf dX12_braid_25
  · replace hf := hf.2 c_21
    refine g_iconst hC dX12_braid_8 ?_
    exact g_reti hC (by unfold inR; omega) hM hf dX12_braid_9
set_option maxHeartbeats 4000000 in
set_option maxRecDepth 100000 in
theorem c_X12_streamMany (l : Launch) (B : Nat) (D : va_G) (K : Nat → ClassId) (v1 : Int) (i_v1 : inR v1) (M : Mem) (hM : MR M) (Q : Int → Mem → Prop) (hf : f_X12_streamMany v1 M Q) : CtI l yX12_streamMany cX12_streamMany 6 2 43 B D K [.ref (B + 95), J v1] M Q := by
  refine ct_i (by decide) (Nat.le_of_ble_eq_true rfl) ?_
  intro p e s m args below meth c hC
  have hC : Cx p s m args meth c D K cX12_streamMany 6 RX12 (some .int) := hC
  unfold f_X12_streamMany at hf
  refine (show G p l e (rmF 2 43) s m args below meth c B D K 6 0 0 (ZI below args s B D K Q) M 0 [(0, .ref (B + 95)), (1, J v1)] [] from ?_)
  refine g_iconst hC dX12_streamMany_0 ?_
  refine g_istore_n hC [(2, J 0), (0, .ref (B + 95)), (1, J v1)] dX12_streamMany_1 rfl (by decide) rfl ?_
  refine jn_elim (fun (k : Mem → Prop) => ∀ (M_1 : Mem), k M_1 → (MR M_1) → G p l e (rmF 2 43) s m args below meth c B D K 6 0 0 (ZI below args s B D K Q) M_1 23 [(0, .ref (B + 95)), (1, J v1)] []) hf ?_ ?_
  · intro M_1 hf h_M_1
    refine g_iconst hC dX12_streamMany_23 ?_
    refine g_istore_n hC [(2, J 1), (0, .ref (B + 95)), (1, J v1)] dX12_streamMany_24 rfl (by decide) rfl ?_
    refine jn_elim (fun (k : Mem → Prop) => ∀ (M_2 : Mem), k M_2 → (MR M_2) → G p l e (rmF 2 43) s m args below meth c B D K 6 0 0 (ZI below args s B D K Q) M_2 177 [(0, .ref (B + 95)), (1, J v1)] []) hf ?_ ?_
    · intro M_2 hf h_M_2
      refine g_iconst hC dX12_streamMany_177 ?_
      refine g_istore_n hC [(3, J 0), (0, .ref (B + 95)), (1, J v1)] dX12_streamMany_178 rfl (by decide) rfl ?_
      refine g_iconst hC dX12_streamMany_179 ?_
      refine g_istore hC [(4, J 0), (3, J 0), (0, .ref (B + 95)), (1, J v1)] dX12_streamMany_180 (by decide) rfl ?_
      refine g_sub [(0, .ref (B + 95)), (1, J v1), (3, J 0), (4, J 0)] [2, 3, 1, 0] rfl ?_
      refine wl2_elim (fun (v3_3 : Int) (v4_4 : Int) => inR v3_3 → inR v4_4 → G p l e (rmF 2 43) s m args below meth c B D K 6 0 0 (ZI below args s B D K Q) M_2 182 [(0, .ref (B + 95)), (1, J v1), (3, J v3_3), (4, J v4_4)] []) ?_ 5000 0 0 hf (by unfold inR; omega) (by unfold inR; omega)
      intro rec182 ih182 v3_3 v4_4 hf h_v3_3 h_v4_4
      unfold X12_streamMany_b182 at hf
      refine g_iload hC 3 dX12_streamMany_182 rfl ?_
      refine g_aload_n hC 0 dX12_streamMany_184 rfl rfl ?_
      refine g_callVI hC (sk := [J v4_4]) [] (c_X12_reaches l B D K   M_2 h_M_2 _ hf) yv_X12_reaches wm_X12_249 okX12.1 sc95 rfl ⟨Nat.le_of_ble_eq_true rfl, Nat.le_of_ble_eq_true rfl, Nat.le_of_ble_eq_true rfl, Nat.le_of_ble_eq_true rfl⟩ rfl (Nat.le_of_ble_eq_true rfl) dX12_streamMany_185 ?_
      rintro r_5 M_6 h_r_5 - ⟨rfl, hf⟩
      refine g_icmp_ge hC 231 h_v4_4 h_r_5 dX12_streamMany_188 rfl (fun c_17 => ?_) (fun c_17 => ?_)
      · replace hf := hf.1 c_17
        refine g_iload_n hC 2 dX12_streamMany_231 rfl rfl ?_
        exact g_reti hC h_v3_3 h_M_2 hf dX12_streamMany_232
      · replace hf := hf.2 c_17
        refine g_iload_n hC 2 dX12_streamMany_191 rfl rfl ?_
        refine g_aload_n hC 0 dX12_streamMany_192 rfl rfl ?_
        refine g_getr hC okX12 sc95 26 (by decide) rfl wf_X12_60 dX12_streamMany_193 ?_
        refine g_iload hC 3 dX12_streamMany_196 rfl ?_
        obtain ⟨q_7, hf⟩ := hf
        refine g_ialdk (v4_4.toNat) hC sc111 q_7.1 q_7.2 rfl dX12_streamMany_198 ?_
        refine g_iload_n hC 1 dX12_streamMany_199 rfl rfl ?_
        refine jn_elim (fun (k : Int → Prop) => ∀ (s1_8 : Int), k s1_8 → ((s1_8 = 0 ∨ s1_8 = 1)) → G p l e (rmF 2 43) s m args below meth c B D K 6 0 0 (ZI below args s B D K Q) M_2 220 [(0, .ref (B + 95)), (1, J v1), (4, J v4_4)] [J s1_8, J v3_3]) hf ?_ ?_
        · intro s1_8 hf h_s1_8
          refine g_callSI hC (sk := [J v3_3]) [J s1_8] (c_X12_flag l B D K s1_8 (zi_ h_s1_8) M_2 h_M_2 _ hf) yv_X12_flag wm_X12_255 rfl ⟨Nat.le_of_ble_eq_true rfl, Nat.le_of_ble_eq_true rfl, Nat.le_of_ble_eq_true rfl, Nat.le_of_ble_eq_true rfl⟩ rfl (Nat.le_of_ble_eq_true rfl) dX12_streamMany_220 ?_
          rintro r_9 M_10 h_r_9 - ⟨rfl, hf⟩
          refine g_iadd hC dX12_streamMany_223 ?_
          obtain ⟨q_11, hf⟩ := hf
          refine g_nm (fun v3_12 e_v3_12 => ?_)
          replace hf := hf v3_12 e_v3_12
          have h_v3_12 : inR v3_12 := by rw [e_v3_12]; exact q_11
          refine g_istore_n hC [(3, J v3_12), (0, .ref (B + 95)), (1, J v1), (4, J v4_4)] dX12_streamMany_224 rfl (by decide) rfl ?_
          obtain ⟨q_14, hf⟩ := hf
          obtain ⟨v4_13, e_v4_13⟩ : ∃ z : Int, z = v4_4 + 1 := ⟨_, rfl⟩
          replace hf := hf v4_13 e_v4_13
          have h_v4_13 : inR v4_13 := by rw [e_v4_13]; exact q_14
          refine g_iincv hC 3 e_v4_13 [(4, J v4_13), (3, J v3_12), (0, .ref (B + 95)), (1, J v1)] dX12_streamMany_225 rfl (by decide) rfl ?_
          refine g_goto hC 182 dX12_streamMany_228 rfl ?_
          refine g_sub [(0, .ref (B + 95)), (1, J v1), (3, J v3_12), (4, J v4_13)] [2, 3, 1, 0] rfl ?_
          exact ih182 v3_12 v4_13 hf h_v3_12 h_v4_13
        · intro J220 hJ220 hf
          refine g_icmp_ne hC 219 (h_M_2 _ _) i_v1 dX12_streamMany_200 rfl (fun c_16 => ?_) (fun c_16 => ?_)
          · replace hf := hf.1 c_16
            refine g_iconst hC dX12_streamMany_219 ?_
            refine g_sub [(0, .ref (B + 95)), (1, J v1), (4, J v4_4)] [0, 1, 3] rfl ?_
            exact hJ220 0 hf (Or.inl rfl)
          · replace hf := hf.2 c_16
            refine g_aload_n hC 0 dX12_streamMany_203 rfl rfl ?_
            refine g_getr hC okX12 sc95 33 (by decide) rfl wf_X12_82 dX12_streamMany_204 ?_
            refine g_iload hC 3 dX12_streamMany_207 rfl ?_
            refine g_ialdk (v4_4.toNat) hC sc118 q_7.1 q_7.2 rfl dX12_streamMany_209 ?_
            refine g_iload hC 3 dX12_streamMany_210 rfl ?_
            refine g_icmp_ne hC 219 (h_M_2 _ _) h_v4_4 dX12_streamMany_212 rfl (fun c_15 => ?_) (fun c_15 => ?_)
            · replace hf := hf.1 c_15
              refine g_iconst hC dX12_streamMany_219 ?_
              refine g_sub [(0, .ref (B + 95)), (1, J v1), (4, J v4_4)] [0, 1, 3] rfl ?_
              exact hJ220 0 hf (Or.inl rfl)
            · replace hf := hf.2 c_15
              refine g_iconst hC dX12_streamMany_215 ?_
              refine g_goto hC 220 dX12_streamMany_216 rfl ?_
              refine g_sub [(0, .ref (B + 95)), (1, J v1), (4, J v4_4)] [0, 1, 3] rfl ?_
              exact hJ220 1 hf (Or.inr rfl)
    · intro J177 hJ177 hf
      refine g_sub [(0, .ref (B + 95)), (1, J v1), (2, J 1)] [1, 2, 0] rfl ?_
      refine wl2_elim (fun (v2_18 : Int) (M_19 : Mem) => (v2_18 = 0 ∨ v2_18 = 1) → MR M_19 → G p l e (rmF 2 43) s m args below meth c B D K 6 0 0 (ZI below args s B D K Q) M_19 25 [(0, .ref (B + 95)), (1, J v1), (2, J v2_18)] []) ?_ 5000 1 M_1 hf (Or.inr rfl) h_M_1
      intro rec25 ih25 v2_18 M_19 hf h_v2_18 h_M_19
      unfold X12_streamMany_b25 at hf
      refine g_iload_n hC 2 dX12_streamMany_25 rfl rfl ?_
      refine g_if_eq hC 177 (zi_ h_v2_18) dX12_streamMany_26 rfl (fun c_58 => ?_) (fun c_58 => ?_)
      · replace hf := hf.1 c_58
        refine g_sub [(0, .ref (B + 95)), (1, J v1)] [0, 1] rfl ?_
        exact hJ177 M_19 hf h_M_19
      · replace hf := hf.2 c_58
        refine g_iconst hC dX12_streamMany_29 ?_
        refine g_istore_n hC [(2, J 0), (0, .ref (B + 95)), (1, J v1)] dX12_streamMany_30 rfl (by decide) rfl ?_
        refine g_iconst hC dX12_streamMany_31 ?_
        refine g_istore_n hC [(3, J 0), (2, J 0), (0, .ref (B + 95)), (1, J v1)] dX12_streamMany_32 rfl (by decide) rfl ?_
        refine g_sub [(0, .ref (B + 95)), (1, J v1), (2, J 0), (3, J 0)] [2, 3, 1, 0] rfl ?_
        refine wl3_elim (fun (v2_20 : Int) (v3_21 : Int) (M_22 : Mem) => (v2_20 = 0 ∨ v2_20 = 1) → inR v3_21 → MR M_22 → G p l e (rmF 2 43) s m args below meth c B D K 6 0 0 (ZI below args s B D K Q) M_22 33 [(0, .ref (B + 95)), (1, J v1), (2, J v2_20), (3, J v3_21)] []) ?_ 5000 0 0 M_19 hf (Or.inl rfl) (by unfold inR; omega) h_M_19
        intro rec33 ih33 v2_20 v3_21 M_22 hf h_v2_20 h_v3_21 h_M_22
        unfold X12_streamMany_b33 at hf
        refine g_iload_n hC 3 dX12_streamMany_33 rfl rfl ?_
        refine g_aload_n hC 0 dX12_streamMany_34 rfl rfl ?_
        refine g_callVI hC (sk := [J v3_21]) [] (c_X12_reaches l B D K   M_22 h_M_22 _ hf) yv_X12_reaches wm_X12_249 okX12.1 sc95 rfl ⟨Nat.le_of_ble_eq_true rfl, Nat.le_of_ble_eq_true rfl, Nat.le_of_ble_eq_true rfl, Nat.le_of_ble_eq_true rfl⟩ rfl (Nat.le_of_ble_eq_true rfl) dX12_streamMany_35 ?_
        rintro r_23 M_24 h_r_23 - ⟨rfl, hf⟩
        refine g_icmp_ge hC 174 h_v3_21 h_r_23 dX12_streamMany_38 rfl (fun c_57 => ?_) (fun c_57 => ?_)
        · replace hf := hf.1 c_57
          refine g_goto hC 25 dX12_streamMany_174 rfl ?_
          refine g_sub [(0, .ref (B + 95)), (1, J v1), (2, J v2_20)] [0, 1, 2] rfl ?_
          exact ih25 v2_20 M_22 hf h_v2_20 h_M_22
        · replace hf := hf.2 c_57
          refine g_iconst hC dX12_streamMany_41 ?_
          refine g_istore hC [(4, J 0), (0, .ref (B + 95)), (1, J v1), (2, J v2_20), (3, J v3_21)] dX12_streamMany_42 (by decide) rfl ?_
          refine g_sub [(0, .ref (B + 95)), (1, J v1), (2, J v2_20), (3, J v3_21), (4, J 0)] [1, 2, 3, 4, 0] rfl ?_
          refine wl3_elim (fun (v2_25 : Int) (v4_26 : Int) (M_27 : Mem) => (v2_25 = 0 ∨ v2_25 = 1) → inR v4_26 → MR M_27 → G p l e (rmF 2 43) s m args below meth c B D K 6 0 0 (ZI below args s B D K Q) M_27 44 [(0, .ref (B + 95)), (1, J v1), (2, J v2_25), (3, J v3_21), (4, J v4_26)] []) ?_ 5000 v2_20 0 M_22 hf h_v2_20 (by unfold inR; omega) h_M_22
          intro rec44 ih44 v2_25 v4_26 M_27 hf h_v2_25 h_v4_26 h_M_27
          unfold X12_streamMany_b44 at hf
          refine g_iload hC 4 dX12_streamMany_44 rfl ?_
          refine g_aload_n hC 0 dX12_streamMany_46 rfl rfl ?_
          refine g_callVI hC (sk := [J v4_26]) [] (c_X12_reaches l B D K   M_27 h_M_27 _ hf) yv_X12_reaches wm_X12_249 okX12.1 sc95 rfl ⟨Nat.le_of_ble_eq_true rfl, Nat.le_of_ble_eq_true rfl, Nat.le_of_ble_eq_true rfl, Nat.le_of_ble_eq_true rfl⟩ rfl (Nat.le_of_ble_eq_true rfl) dX12_streamMany_47 ?_
          rintro r_28 M_29 h_r_28 - ⟨rfl, hf⟩
          refine g_icmp_ge hC 168 h_v4_26 h_r_28 dX12_streamMany_50 rfl (fun c_56 => ?_) (fun c_56 => ?_)
          · replace hf := hf.1 c_56
            obtain ⟨q_31, hf⟩ := hf
            obtain ⟨v3_30, e_v3_30⟩ : ∃ z : Int, z = v3_21 + 1 := ⟨_, rfl⟩
            replace hf := hf v3_30 e_v3_30
            have h_v3_30 : inR v3_30 := by rw [e_v3_30]; exact q_31
            refine g_iincv hC 3 e_v3_30 [(3, J v3_30), (0, .ref (B + 95)), (1, J v1), (2, J v2_25), (4, J v4_26)] dX12_streamMany_168 rfl (by decide) rfl ?_
            refine g_goto hC 33 dX12_streamMany_171 rfl ?_
            refine g_sub [(0, .ref (B + 95)), (1, J v1), (2, J v2_25), (3, J v3_30)] [1, 2, 3, 0] rfl ?_
            exact ih33 v2_25 v3_30 M_27 hf h_v2_25 h_v3_30 h_M_27
          · replace hf := hf.2 c_56
            refine g_aload_n hC 0 dX12_streamMany_53 rfl rfl ?_
            refine g_getr hC okX12 sc95 26 (by decide) rfl wf_X12_60 dX12_streamMany_54 ?_
            refine g_iload_n hC 3 dX12_streamMany_57 rfl rfl ?_
            obtain ⟨q_32, hf⟩ := hf
            refine g_ialdk (v3_21.toNat) hC sc111 q_32.1 q_32.2 rfl dX12_streamMany_58 ?_
            refine g_iload_n hC 1 dX12_streamMany_59 rfl rfl ?_
            refine g_icmp_ne hC 162 (h_M_27 _ _) i_v1 dX12_streamMany_60 rfl (fun c_55 => ?_) (fun c_55 => ?_)
            · replace hf := hf.1 c_55
              obtain ⟨q_34, hf⟩ := hf
              obtain ⟨v4_33, e_v4_33⟩ : ∃ z : Int, z = v4_26 + 1 := ⟨_, rfl⟩
              replace hf := hf v4_33 e_v4_33
              have h_v4_33 : inR v4_33 := by rw [e_v4_33]; exact q_34
              refine g_iincv hC 4 e_v4_33 [(4, J v4_33), (0, .ref (B + 95)), (1, J v1), (2, J v2_25), (3, J v3_21)] dX12_streamMany_162 rfl (by decide) rfl ?_
              refine g_goto hC 44 dX12_streamMany_165 rfl ?_
              refine g_sub [(0, .ref (B + 95)), (1, J v1), (2, J v2_25), (3, J v3_21), (4, J v4_33)] [1, 2, 3, 4, 0] rfl ?_
              exact ih44 v2_25 v4_33 M_27 hf h_v2_25 h_v4_33 h_M_27
            · replace hf := hf.2 c_55
              refine g_aload_n hC 0 dX12_streamMany_63 rfl rfl ?_
              refine g_getr hC okX12 sc95 26 (by decide) rfl wf_X12_60 dX12_streamMany_64 ?_
              refine g_iload hC 4 dX12_streamMany_67 rfl ?_
              obtain ⟨q_35, hf⟩ := hf
              refine g_ialdk (v4_26.toNat) hC sc111 q_35.1 q_35.2 rfl dX12_streamMany_69 ?_
              refine g_iload_n hC 1 dX12_streamMany_70 rfl rfl ?_
              refine g_icmp_ne hC 162 (h_M_27 _ _) i_v1 dX12_streamMany_71 rfl (fun c_54 => ?_) (fun c_54 => ?_)
              · replace hf := hf.1 c_54
                obtain ⟨q_37, hf⟩ := hf
                obtain ⟨v4_36, e_v4_36⟩ : ∃ z : Int, z = v4_26 + 1 := ⟨_, rfl⟩
                replace hf := hf v4_36 e_v4_36
                have h_v4_36 : inR v4_36 := by rw [e_v4_36]; exact q_37
                refine g_iincv hC 4 e_v4_36 [(4, J v4_36), (0, .ref (B + 95)), (1, J v1), (2, J v2_25), (3, J v3_21)] dX12_streamMany_162 rfl (by decide) rfl ?_
                refine g_goto hC 44 dX12_streamMany_165 rfl ?_
                refine g_sub [(0, .ref (B + 95)), (1, J v1), (2, J v2_25), (3, J v3_21), (4, J v4_36)] [1, 2, 3, 4, 0] rfl ?_
                exact ih44 v2_25 v4_36 M_27 hf h_v2_25 h_v4_36 h_M_27
              · replace hf := hf.2 c_54
                refine g_aload_n hC 0 dX12_streamMany_74 rfl rfl ?_
                refine g_iload_n hC 3 dX12_streamMany_75 rfl rfl ?_
                refine g_iconst hC dX12_streamMany_76 ?_
                refine g_callVI hC (sk := []) [J v3_21, J 1] (c_X12_its l B D K v3_21 1 h_v3_21 (by unfold inR; omega) M_27 h_M_27 _ hf) yv_X12_its wm_X12_252 okX12.1 sc95 rfl ⟨Nat.le_of_ble_eq_true rfl, Nat.le_of_ble_eq_true rfl, Nat.le_of_ble_eq_true rfl, Nat.le_of_ble_eq_true rfl⟩ rfl (Nat.le_of_ble_eq_true rfl) dX12_streamMany_77 ?_
                rintro r_38 M_39 h_r_38 - ⟨rfl, hf⟩
                refine g_aload_n hC 0 dX12_streamMany_80 rfl rfl ?_
                refine g_iload hC 4 dX12_streamMany_81 rfl ?_
                refine g_iconst hC dX12_streamMany_83 ?_
                refine g_callVI hC (sk := [J r_38]) [J v4_26, J 0] (c_X12_its l B D K v4_26 0 h_v4_26 (by unfold inR; omega) M_27 h_M_27 _ hf) yv_X12_its wm_X12_252 okX12.1 sc95 rfl ⟨Nat.le_of_ble_eq_true rfl, Nat.le_of_ble_eq_true rfl, Nat.le_of_ble_eq_true rfl, Nat.le_of_ble_eq_true rfl⟩ rfl (Nat.le_of_ble_eq_true rfl) dX12_streamMany_84 ?_
                rintro r_40 M_41 h_r_40 - ⟨rfl, hf⟩
                refine g_icmp_ne hC 162 h_r_38 h_r_40 dX12_streamMany_87 rfl (fun c_53 => ?_) (fun c_53 => ?_)
                · replace hf := hf.1 c_53
                  obtain ⟨q_43, hf⟩ := hf
                  obtain ⟨v4_42, e_v4_42⟩ : ∃ z : Int, z = v4_26 + 1 := ⟨_, rfl⟩
                  replace hf := hf v4_42 e_v4_42
                  have h_v4_42 : inR v4_42 := by rw [e_v4_42]; exact q_43
                  refine g_iincv hC 4 e_v4_42 [(4, J v4_42), (0, .ref (B + 95)), (1, J v1), (2, J v2_25), (3, J v3_21)] dX12_streamMany_162 rfl (by decide) rfl ?_
                  refine g_goto hC 44 dX12_streamMany_165 rfl ?_
                  refine g_sub [(0, .ref (B + 95)), (1, J v1), (2, J v2_25), (3, J v3_21), (4, J v4_42)] [1, 2, 3, 4, 0] rfl ?_
                  exact ih44 v2_25 v4_42 M_27 hf h_v2_25 h_v4_42 h_M_27
                · replace hf := hf.2 c_53
                  refine g_aload_n hC 0 dX12_streamMany_90 rfl rfl ?_
                  refine g_getr hC okX12 sc95 33 (by decide) rfl wf_X12_82 dX12_streamMany_91 ?_
                  refine g_iload_n hC 3 dX12_streamMany_94 rfl rfl ?_
                  refine g_ialdk (v3_21.toNat) hC sc118 q_32.1 q_32.2 rfl dX12_streamMany_95 ?_
                  refine g_aload_n hC 0 dX12_streamMany_96 rfl rfl ?_
                  refine g_getr hC okX12 sc95 33 (by decide) rfl wf_X12_82 dX12_streamMany_97 ?_
                  refine g_iload hC 4 dX12_streamMany_100 rfl ?_
                  refine g_ialdk (v4_26.toNat) hC sc118 q_35.1 q_35.2 rfl dX12_streamMany_102 ?_
                  refine g_icmp_ne hC 109 (h_M_27 _ _) (h_M_27 _ _) dX12_streamMany_103 rfl (fun c_52 => ?_) (fun c_52 => ?_)
                  · replace hf := hf.1 c_52
                    refine g_aload_n hC 0 dX12_streamMany_109 rfl rfl ?_
                    refine g_getr hC okX12 sc95 33 (by decide) rfl wf_X12_82 dX12_streamMany_110 ?_
                    refine g_iload_n hC 3 dX12_streamMany_113 rfl rfl ?_
                    refine g_ialdk (v3_21.toNat) hC sc118 q_32.1 q_32.2 rfl dX12_streamMany_114 ?_
                    refine g_aload_n hC 0 dX12_streamMany_115 rfl rfl ?_
                    refine g_getr hC okX12 sc95 33 (by decide) rfl wf_X12_82 dX12_streamMany_116 ?_
                    refine g_iload hC 4 dX12_streamMany_119 rfl ?_
                    refine g_ialdk (v4_26.toNat) hC sc118 q_35.1 q_35.2 rfl dX12_streamMany_121 ?_
                    refine jn_elim (fun (k : Int → Prop) => ∀ (s0_44 : Int), k s0_44 → (inR s0_44) → G p l e (rmF 2 43) s m args below meth c B D K 6 0 0 (ZI below args s B D K Q) M_27 141 [(0, .ref (B + 95)), (1, J v1), (3, J v3_21), (4, J v4_26)] [J s0_44]) hf ?_ ?_
                    · intro s0_44 hf h_s0_44
                      refine g_istore hC [(5, J s0_44), (0, .ref (B + 95)), (1, J v1), (3, J v3_21), (4, J v4_26)] dX12_streamMany_141 (by decide) rfl ?_
                      refine g_aload_n hC 1 dX12_streamMany_143 rfl rfl ?_
                      refine g_getr hC okX12 sc95 33 (by decide) rfl wf_X12_82 dX12_streamMany_144 ?_
                      refine g_iload_n hC 3 dX12_streamMany_147 rfl rfl ?_
                      refine g_iload hC 0 dX12_streamMany_148 rfl ?_
                      refine g_iastk (v3_21.toNat) hC sc118 q_32.1 q_32.2 rfl dX12_streamMany_150 ?_
                      refine g_nmM (fun M_45 e_M_45 => ?_)
                      replace hf := hf M_45 e_M_45
                      have h_M_45 : MR M_45 := by rw [e_M_45]; exact MR_st h_M_27 h_s0_44
                      refine g_aload_n hC 1 dX12_streamMany_151 rfl rfl ?_
                      refine g_getr hC okX12 sc95 33 (by decide) rfl wf_X12_82 dX12_streamMany_152 ?_
                      refine g_iload hC 4 dX12_streamMany_155 rfl ?_
                      refine g_iload hC 0 dX12_streamMany_157 rfl ?_
                      refine g_iastk (v4_26.toNat) hC sc118 q_35.1 q_35.2 rfl dX12_streamMany_159 ?_
                      refine g_nmM (fun M_46 e_M_46 => ?_)
                      replace hf := hf M_46 e_M_46
                      have h_M_46 : MR M_46 := by rw [e_M_46]; exact MR_st h_M_45 h_s0_44
                      refine g_iconst hC dX12_streamMany_160 ?_
                      refine g_istore_n hC [(2, J 1), (5, J s0_44), (0, .ref (B + 95)), (1, J v1), (3, J v3_21), (4, J v4_26)] dX12_streamMany_161 rfl (by decide) rfl ?_
                      obtain ⟨q_48, hf⟩ := hf
                      obtain ⟨v4_47, e_v4_47⟩ : ∃ z : Int, z = v4_26 + 1 := ⟨_, rfl⟩
                      replace hf := hf v4_47 e_v4_47
                      have h_v4_47 : inR v4_47 := by rw [e_v4_47]; exact q_48
                      refine g_iincv hC 5 e_v4_47 [(4, J v4_47), (2, J 1), (5, J s0_44), (0, .ref (B + 95)), (1, J v1), (3, J v3_21)] dX12_streamMany_162 rfl (by decide) rfl ?_
                      refine g_goto hC 44 dX12_streamMany_165 rfl ?_
                      refine g_sub [(0, .ref (B + 95)), (1, J v1), (2, J 1), (3, J v3_21), (4, J v4_47)] [3, 4, 1, 5, 0] rfl ?_
                      exact ih44 1 v4_47 M_46 hf (Or.inr rfl) h_v4_47 h_M_46
                    · intro J141 hJ141 hf
                      refine g_icmp_ge hC 134 (h_M_27 _ _) (h_M_27 _ _) dX12_streamMany_122 rfl (fun c_49 => ?_) (fun c_49 => ?_)
                      · replace hf := hf.1 c_49
                        refine g_aload_n hC 0 dX12_streamMany_134 rfl rfl ?_
                        refine g_getr hC okX12 sc95 33 (by decide) rfl wf_X12_82 dX12_streamMany_135 ?_
                        refine g_iload hC 4 dX12_streamMany_138 rfl ?_
                        refine g_ialdk (v4_26.toNat) hC sc118 q_35.1 q_35.2 rfl dX12_streamMany_140 ?_
                        refine g_sub [(0, .ref (B + 95)), (1, J v1), (3, J v3_21), (4, J v4_26)] [0, 1, 3, 4] rfl ?_
                        exact hJ141 (M_27 118 (v4_26.toNat)) hf (h_M_27 _ _)
                      · replace hf := hf.2 c_49
                        refine g_aload_n hC 0 dX12_streamMany_125 rfl rfl ?_
                        refine g_getr hC okX12 sc95 33 (by decide) rfl wf_X12_82 dX12_streamMany_126 ?_
                        refine g_iload_n hC 3 dX12_streamMany_129 rfl rfl ?_
                        refine g_ialdk (v3_21.toNat) hC sc118 q_32.1 q_32.2 rfl dX12_streamMany_130 ?_
                        refine g_goto hC 141 dX12_streamMany_131 rfl ?_
                        refine g_sub [(0, .ref (B + 95)), (1, J v1), (3, J v3_21), (4, J v4_26)] [0, 1, 3, 4] rfl ?_
                        exact hJ141 (M_27 118 (v3_21.toNat)) hf (h_M_27 _ _)
                  · replace hf := hf.2 c_52
                    refine g_goto hC 162 dX12_streamMany_106 rfl ?_
                    obtain ⟨q_51, hf⟩ := hf
                    obtain ⟨v4_50, e_v4_50⟩ : ∃ z : Int, z = v4_26 + 1 := ⟨_, rfl⟩
                    replace hf := hf v4_50 e_v4_50
                    have h_v4_50 : inR v4_50 := by rw [e_v4_50]; exact q_51
                    refine g_iincv hC 4 e_v4_50 [(4, J v4_50), (0, .ref (B + 95)), (1, J v1), (2, J v2_25), (3, J v3_21)] dX12_streamMany_162 rfl (by decide) rfl ?_
                    refine g_goto hC 44 dX12_streamMany_165 rfl ?_
                    refine g_sub [(0, .ref (B + 95)), (1, J v1), (2, J v2_25), (3, J v3_21), (4, J v4_50)] [1, 2, 3, 4, 0] rfl ?_
                    exact ih44 v2_25 v4_50 M_27 hf h_v2_25 h_v4_50 h_M_27
  · intro J23 hJ23 hf
    refine g_sub [(0, .ref (B + 95)), (1, J v1), (2, J 0)] [1, 2, 0] rfl ?_
    refine wl2_elim (fun (v2_59 : Int) (M_60 : Mem) => inR v2_59 → MR M_60 → G p l e (rmF 2 43) s m args below meth c B D K 6 0 0 (ZI below args s B D K Q) M_60 2 [(0, .ref (B + 95)), (1, J v1), (2, J v2_59)] []) ?_ 5000 0 M hf (by unfold inR; omega) hM
    intro rec2 ih2 v2_59 M_60 hf h_v2_59 h_M_60
    unfold X12_streamMany_b2 at hf
    refine g_iload_n hC 2 dX12_streamMany_2 rfl rfl ?_
    refine g_aload_n hC 0 dX12_streamMany_3 rfl rfl ?_
    refine g_callVI hC (sk := [J v2_59]) [] (c_X12_reaches l B D K   M_60 h_M_60 _ hf) yv_X12_reaches wm_X12_249 okX12.1 sc95 rfl ⟨Nat.le_of_ble_eq_true rfl, Nat.le_of_ble_eq_true rfl, Nat.le_of_ble_eq_true rfl, Nat.le_of_ble_eq_true rfl⟩ rfl (Nat.le_of_ble_eq_true rfl) dX12_streamMany_4 ?_
    rintro r_61 M_62 h_r_61 - ⟨rfl, hf⟩
    refine g_icmp_ge hC 23 h_v2_59 h_r_61 dX12_streamMany_7 rfl (fun c_67 => ?_) (fun c_67 => ?_)
    · replace hf := hf.1 c_67
      refine g_sub [(0, .ref (B + 95)), (1, J v1)] [0, 1] rfl ?_
      exact hJ23 M_60 hf h_M_60
    · replace hf := hf.2 c_67
      refine g_aload_n hC 0 dX12_streamMany_10 rfl rfl ?_
      refine g_getr hC okX12 sc95 33 (by decide) rfl wf_X12_82 dX12_streamMany_11 ?_
      refine g_iload_n hC 2 dX12_streamMany_14 rfl rfl ?_
      refine g_iload_n hC 2 dX12_streamMany_15 rfl rfl ?_
      obtain ⟨q_63, hf⟩ := hf
      refine g_iastk (v2_59.toNat) hC sc118 q_63.1 q_63.2 rfl dX12_streamMany_16 ?_
      refine g_nmM (fun M_64 e_M_64 => ?_)
      replace hf := hf M_64 e_M_64
      have h_M_64 : MR M_64 := by rw [e_M_64]; exact MR_st h_M_60 h_v2_59
      obtain ⟨q_66, hf⟩ := hf
      obtain ⟨v2_65, e_v2_65⟩ : ∃ z : Int, z = v2_59 + 1 := ⟨_, rfl⟩
      replace hf := hf v2_65 e_v2_65
      have h_v2_65 : inR v2_65 := by rw [e_v2_65]; exact q_66
      refine g_iincv hC 2 e_v2_65 [(2, J v2_65), (0, .ref (B + 95)), (1, J v1)] dX12_streamMany_17 rfl (by decide) rfl ?_
      refine g_goto hC 2 dX12_streamMany_20 rfl ?_
      refine g_sub [(0, .ref (B + 95)), (1, J v1), (2, J v2_65)] [1, 2, 0] rfl ?_
      exact ih2 v2_65 M_64 hf h_v2_65 h_M_64
set_option maxHeartbeats 4000000 in
set_option maxRecDepth 100000 in
theorem c_X12_streams (l : Launch) (B : Nat) (D : va_G) (K : Nat → ClassId) (v1 : Int) (v2 : Int) (i_v1 : inR v1) (i_v2 : inR v2) (M : Mem) (hM : MR M) (Q : Int → Mem → Prop) (hf : f_X12_streams v1 v2 M Q) : CtI l yX12_streams cX12_streams 5 7 159 B D K [.ref (B + 95), J v1, J v2] M Q := by
  refine ct_i (by decide) (Nat.le_of_ble_eq_true rfl) ?_
  intro p e s m args below meth c hC
  have hC : Cx p s m args meth c D K cX12_streams 5 RX12 (some .int) := hC
  unfold f_X12_streams at hf
  refine (show G p l e (rmF 7 159) s m args below meth c B D K 5 0 0 (ZI below args s B D K Q) M 0 [(0, .ref (B + 95)), (1, J v1), (2, J v2)] [] from ?_)
  refine g_iload_n hC 1 dX12_streams_0 rfl rfl ?_
  refine g_iconst hC dX12_streams_1 ?_
  refine g_icmp_lt hC 17 i_v1 (by unfold inR; omega) dX12_streams_2 rfl (fun c_28 => ?_) (fun c_28 => ?_)
  · replace hf := hf.1 c_28
    refine g_iconst hC dX12_streams_17 ?_
    exact g_reti hC (by unfold inR; omega) hM hf dX12_streams_18
  · replace hf := hf.2 c_28
    refine g_iload_n hC 2 dX12_streams_5 rfl rfl ?_
    refine g_i2l hC i_v2 dX12_streams_6 ?_
    refine g_lconst (n := 0) hC dX12_streams_7 (by decide) ?_
    refine g_ldc2 (n := 2) hC wc_X12_351 (by decide) dX12_streams_8 ?_
    refine g_callSZ hC (sk := []) [JL v2, JL 0, JL 2] (c_X12_isIn l B D K v2 0 2 (inL_of i_v2) (by unfold inL; omega) (by unfold inL; omega) M hM _ hf) yv_X12_isIn wm_X12_127 rfl ⟨Nat.le_of_ble_eq_true rfl, Nat.le_of_ble_eq_true rfl, Nat.le_of_ble_eq_true rfl, Nat.le_of_ble_eq_true rfl⟩ rfl (Nat.le_of_ble_eq_true rfl) dX12_streams_11 ?_
    rintro r_1 M_2 h_r_1 - ⟨rfl, hf⟩
    refine g_if_ne hC 19 (zi_ h_r_1) dX12_streams_14 rfl (fun c_27 => ?_) (fun c_27 => ?_)
    · replace hf := hf.1 c_27
      refine g_aload_n hC 0 dX12_streams_19 rfl rfl ?_
      refine g_callVV hC (sk := []) [] (c_X12_lays l B D K   M hM _ hf) yv_X12_lays wm_X12_320 okX12.1 sc95 rfl ⟨Nat.le_of_ble_eq_true rfl, Nat.le_of_ble_eq_true rfl, Nat.le_of_ble_eq_true rfl, Nat.le_of_ble_eq_true rfl⟩ rfl (Nat.le_of_ble_eq_true rfl) dX12_streams_20 ?_
      intro M_3 h_M_3 hf
      refine g_iload_n hC 2 dX12_streams_23 rfl rfl ?_
      refine g_if_ne hC 33 i_v2 dX12_streams_24 rfl (fun c_26 => ?_) (fun c_26 => ?_)
      · replace hf := hf.1 c_26
        refine g_iconst hC dX12_streams_33 ?_
        refine g_istore_n hC [(3, J 0), (0, .ref (B + 95)), (1, J v1), (2, J v2)] dX12_streams_34 rfl (by decide) rfl ?_
        refine g_iconst hC dX12_streams_35 ?_
        refine g_istore hC [(4, J 0), (3, J 0), (0, .ref (B + 95)), (1, J v1), (2, J v2)] dX12_streams_36 (by decide) rfl ?_
        refine g_sub [(0, .ref (B + 95)), (1, J v1), (2, J v2), (3, J 0), (4, J 0)] [2, 3, 4, 1, 0] rfl ?_
        refine wl2_elim (fun (v3_4 : Int) (v4_5 : Int) => inR v3_4 → inR v4_5 → G p l e (rmF 7 159) s m args below meth c B D K 5 0 0 (ZI below args s B D K Q) M_3 38 [(0, .ref (B + 95)), (1, J v1), (2, J v2), (3, J v3_4), (4, J v4_5)] []) ?_ 5000 0 0 hf (by unfold inR; omega) (by unfold inR; omega)
        intro rec38 ih38 v3_4 v4_5 hf h_v3_4 h_v4_5
        unfold X12_streams_b38 at hf
        refine g_iload hC 4 dX12_streams_38 rfl ?_
        refine g_aload_n hC 0 dX12_streams_40 rfl rfl ?_
        refine g_callVI hC (sk := [J v4_5]) [] (c_X12_reaches l B D K   M_3 h_M_3 _ hf) yv_X12_reaches wm_X12_249 okX12.1 sc95 rfl ⟨Nat.le_of_ble_eq_true rfl, Nat.le_of_ble_eq_true rfl, Nat.le_of_ble_eq_true rfl, Nat.le_of_ble_eq_true rfl⟩ rfl (Nat.le_of_ble_eq_true rfl) dX12_streams_41 ?_
        rintro r_6 M_7 h_r_6 - ⟨rfl, hf⟩
        refine g_icmp_ge hC 83 h_v4_5 h_r_6 dX12_streams_44 rfl (fun c_23 => ?_) (fun c_23 => ?_)
        · replace hf := hf.1 c_23
          refine g_iload_n hC 3 dX12_streams_83 rfl rfl ?_
          exact g_reti hC h_v3_4 h_M_3 hf dX12_streams_84
        · replace hf := hf.2 c_23
          refine g_aload_n hC 0 dX12_streams_47 rfl rfl ?_
          refine g_getr hC okX12 sc95 26 (by decide) rfl wf_X12_60 dX12_streams_48 ?_
          refine g_iload hC 4 dX12_streams_51 rfl ?_
          obtain ⟨q_8, hf⟩ := hf
          refine g_ialdk (v4_5.toNat) hC sc111 q_8.1 q_8.2 rfl dX12_streams_53 ?_
          refine g_iload_n hC 1 dX12_streams_54 rfl rfl ?_
          refine g_icmp_ne hC 77 (h_M_3 _ _) i_v1 dX12_streams_55 rfl (fun c_22 => ?_) (fun c_22 => ?_)
          · replace hf := hf.1 c_22
            obtain ⟨q_10, hf⟩ := hf
            obtain ⟨v4_9, e_v4_9⟩ : ∃ z : Int, z = v4_5 + 1 := ⟨_, rfl⟩
            replace hf := hf v4_9 e_v4_9
            have h_v4_9 : inR v4_9 := by rw [e_v4_9]; exact q_10
            refine g_iincv hC 4 e_v4_9 [(4, J v4_9), (0, .ref (B + 95)), (1, J v1), (2, J v2), (3, J v3_4)] dX12_streams_77 rfl (by decide) rfl ?_
            refine g_goto hC 38 dX12_streams_80 rfl ?_
            refine g_sub [(0, .ref (B + 95)), (1, J v1), (2, J v2), (3, J v3_4), (4, J v4_9)] [1, 2, 3, 4, 0] rfl ?_
            exact ih38 v3_4 v4_9 hf h_v3_4 h_v4_9
          · replace hf := hf.2 c_22
            refine g_iload_n hC 3 dX12_streams_58 rfl rfl ?_
            refine g_iload_n hC 2 dX12_streams_59 rfl rfl ?_
            refine g_iconst hC dX12_streams_60 ?_
            refine g_icmp_ne hC 68 i_v2 (by unfold inR; omega) dX12_streams_61 rfl (fun c_21 => ?_) (fun c_21 => ?_)
            · replace hf := hf.1 c_21
              refine g_aload_n hC 0 dX12_streams_68 rfl rfl ?_
              refine g_iload hC 4 dX12_streams_69 rfl ?_
              refine g_iconst hC dX12_streams_71 ?_
              refine g_callVI hC (sk := [J v3_4]) [J v4_5, J 2] (c_X12_its l B D K v4_5 2 h_v4_5 (by unfold inR; omega) M_3 h_M_3 _ hf) yv_X12_its wm_X12_252 okX12.1 sc95 rfl ⟨Nat.le_of_ble_eq_true rfl, Nat.le_of_ble_eq_true rfl, Nat.le_of_ble_eq_true rfl, Nat.le_of_ble_eq_true rfl⟩ rfl (Nat.le_of_ble_eq_true rfl) dX12_streams_72 ?_
              rintro r_11 M_12 h_r_11 - ⟨rfl, hf⟩
              refine g_iadd hC dX12_streams_75 ?_
              obtain ⟨q_13, hf⟩ := hf
              refine g_nm (fun v3_14 e_v3_14 => ?_)
              replace hf := hf v3_14 e_v3_14
              have h_v3_14 : inR v3_14 := by rw [e_v3_14]; exact q_13
              refine g_istore_n hC [(3, J v3_14), (0, .ref (B + 95)), (1, J v1), (2, J v2), (4, J v4_5)] dX12_streams_76 rfl (by decide) rfl ?_
              obtain ⟨q_16, hf⟩ := hf
              obtain ⟨v4_15, e_v4_15⟩ : ∃ z : Int, z = v4_5 + 1 := ⟨_, rfl⟩
              replace hf := hf v4_15 e_v4_15
              have h_v4_15 : inR v4_15 := by rw [e_v4_15]; exact q_16
              refine g_iincv hC 4 e_v4_15 [(4, J v4_15), (3, J v3_14), (0, .ref (B + 95)), (1, J v1), (2, J v2)] dX12_streams_77 rfl (by decide) rfl ?_
              refine g_goto hC 38 dX12_streams_80 rfl ?_
              refine g_sub [(0, .ref (B + 95)), (1, J v1), (2, J v2), (3, J v3_14), (4, J v4_15)] [2, 3, 4, 1, 0] rfl ?_
              exact ih38 v3_14 v4_15 hf h_v3_14 h_v4_15
            · replace hf := hf.2 c_21
              refine g_iconst hC dX12_streams_64 ?_
              refine g_goto hC 75 dX12_streams_65 rfl ?_
              refine g_iadd hC dX12_streams_75 ?_
              obtain ⟨q_17, hf⟩ := hf
              refine g_nm (fun v3_18 e_v3_18 => ?_)
              replace hf := hf v3_18 e_v3_18
              have h_v3_18 : inR v3_18 := by rw [e_v3_18]; exact q_17
              refine g_istore_n hC [(3, J v3_18), (0, .ref (B + 95)), (1, J v1), (2, J v2), (4, J v4_5)] dX12_streams_76 rfl (by decide) rfl ?_
              obtain ⟨q_20, hf⟩ := hf
              obtain ⟨v4_19, e_v4_19⟩ : ∃ z : Int, z = v4_5 + 1 := ⟨_, rfl⟩
              replace hf := hf v4_19 e_v4_19
              have h_v4_19 : inR v4_19 := by rw [e_v4_19]; exact q_20
              refine g_iincv hC 4 e_v4_19 [(4, J v4_19), (3, J v3_18), (0, .ref (B + 95)), (1, J v1), (2, J v2)] dX12_streams_77 rfl (by decide) rfl ?_
              refine g_goto hC 38 dX12_streams_80 rfl ?_
              refine g_sub [(0, .ref (B + 95)), (1, J v1), (2, J v2), (3, J v3_18), (4, J v4_19)] [2, 3, 4, 1, 0] rfl ?_
              exact ih38 v3_18 v4_19 hf h_v3_18 h_v4_19
      · replace hf := hf.2 c_26
        refine g_aload_n hC 0 dX12_streams_27 rfl rfl ?_
        refine g_iload_n hC 1 dX12_streams_28 rfl rfl ?_
        refine g_callVI hC (sk := []) [J v1] (c_X12_streamMany l B D K v1 i_v1 M_3 h_M_3 _ hf) yv_X12_streamMany wm_X12_373 okX12.1 sc95 rfl ⟨Nat.le_of_ble_eq_true rfl, Nat.le_of_ble_eq_true rfl, Nat.le_of_ble_eq_true rfl, Nat.le_of_ble_eq_true rfl⟩ rfl (Nat.le_of_ble_eq_true rfl) dX12_streams_29 ?_
        intro r_24 M_25 h_r_24 h_M_25 hf
        exact g_reti hC h_r_24 h_M_25 hf dX12_streams_32
    · replace hf := hf.2 c_27
      refine g_iconst hC dX12_streams_17 ?_
      exact g_reti hC (by unfold inR; omega) hM hf dX12_streams_18
set_option maxHeartbeats 4000000 in
set_option maxRecDepth 100000 in
theorem c_X12_isTorn (l : Launch) (B : Nat) (D : va_G) (K : Nat → ClassId) (v1 : Int) (i_v1 : inR v1) (M : Mem) (hM : MR M) (Q : Int → Prop) (hf : f_X12_isTorn v1 M Q) : CtZ l yX12_isTorn cX12_isTorn 5 2 43 B D K [.ref (B + 95), J v1] M (fun r M1 => M = M1 ∧ Q r) := by
  refine ct_z (by decide) (Nat.le_of_ble_eq_true rfl) ?_
  intro p e s m args below meth c hC
  have hC : Cx p s m args meth c D K cX12_isTorn 5 RX12 (some .boolean) := hC
  unfold f_X12_isTorn at hf
  refine (show G p l e (rmF 2 43) s m args below meth c B D K 5 0 0 (ZZ below args s B D K (fun r M1 => M = M1 ∧ Q r)) M 0 [(0, .ref (B + 95)), (1, J v1)] [] from ?_)
  refine g_iconst hC dX12_isTorn_0 ?_
  refine g_istore_n hC [(2, J (-1)), (0, .ref (B + 95)), (1, J v1)] dX12_isTorn_1 rfl (by decide) rfl ?_
  refine g_iconst hC dX12_isTorn_2 ?_
  refine g_istore_n hC [(3, J 0), (2, J (-1)), (0, .ref (B + 95)), (1, J v1)] dX12_isTorn_3 rfl (by decide) rfl ?_
  refine g_sub [(0, .ref (B + 95)), (1, J v1), (2, J (-1)), (3, J 0)] [2, 3, 1, 0] rfl ?_
  refine wl2_elim (fun (v2_1 : Int) (v3_2 : Int) => inR v2_1 → inR v3_2 → G p l e (rmF 2 43) s m args below meth c B D K 5 0 0 (ZZ below args s B D K (fun r M1 => M = M1 ∧ Q r)) M 4 [(0, .ref (B + 95)), (1, J v1), (2, J v2_1), (3, J v3_2)] []) ?_ 5000 (-1) 0 hf (by unfold inR; omega) (by unfold inR; omega)
  intro rec4 ih4 v2_1 v3_2 hf h_v2_1 h_v3_2
  unfold X12_isTorn_b4 at hf
  refine g_iload_n hC 3 dX12_isTorn_4 rfl rfl ?_
  refine g_aload_n hC 0 dX12_isTorn_5 rfl rfl ?_
  refine g_callVI hC (sk := [J v3_2]) [] (c_X12_places l B D K   M hM _ hf) yv_X12_places wm_X12_246 okX12.1 sc95 rfl ⟨Nat.le_of_ble_eq_true rfl, Nat.le_of_ble_eq_true rfl, Nat.le_of_ble_eq_true rfl, Nat.le_of_ble_eq_true rfl⟩ rfl (Nat.le_of_ble_eq_true rfl) dX12_isTorn_6 ?_
  rintro r_3 M_4 h_r_3 - ⟨rfl, hf⟩
  refine g_icmp_ge hC 88 h_v3_2 h_r_3 dX12_isTorn_9 rfl (fun c_31 => ?_) (fun c_31 => ?_)
  · replace hf := hf.1 c_31
    refine g_iconst hC dX12_isTorn_88 ?_
    exact g_retz hC (Or.inl rfl) hM ⟨rfl, hf⟩ dX12_isTorn_89
  · replace hf := hf.2 c_31
    refine g_iconst hC dX12_isTorn_12 ?_
    refine g_istore hC [(4, J 0), (0, .ref (B + 95)), (1, J v1), (2, J v2_1), (3, J v3_2)] dX12_isTorn_13 (by decide) rfl ?_
    refine g_sub [(0, .ref (B + 95)), (1, J v1), (2, J v2_1), (3, J v3_2), (4, J 0)] [1, 2, 3, 4, 0] rfl ?_
    refine wl2_elim (fun (v2_5 : Int) (v4_6 : Int) => inR v2_5 → inR v4_6 → G p l e (rmF 2 43) s m args below meth c B D K 5 0 0 (ZZ below args s B D K (fun r M1 => M = M1 ∧ Q r)) M 15 [(0, .ref (B + 95)), (1, J v1), (2, J v2_5), (3, J v3_2), (4, J v4_6)] []) ?_ 5000 v2_1 0 hf h_v2_1 (by unfold inR; omega)
    intro rec15 ih15 v2_5 v4_6 hf h_v2_5 h_v4_6
    unfold X12_isTorn_b15 at hf
    refine g_iload hC 4 dX12_isTorn_15 rfl ?_
    refine g_aload_n hC 0 dX12_isTorn_17 rfl rfl ?_
    refine g_callVI hC (sk := [J v4_6]) [] (c_X12_reaches l B D K   M hM _ hf) yv_X12_reaches wm_X12_249 okX12.1 sc95 rfl ⟨Nat.le_of_ble_eq_true rfl, Nat.le_of_ble_eq_true rfl, Nat.le_of_ble_eq_true rfl, Nat.le_of_ble_eq_true rfl⟩ rfl (Nat.le_of_ble_eq_true rfl) dX12_isTorn_18 ?_
    rintro r_7 M_8 h_r_7 - ⟨rfl, hf⟩
    refine g_icmp_ge hC 82 h_v4_6 h_r_7 dX12_isTorn_21 rfl (fun c_30 => ?_) (fun c_30 => ?_)
    · replace hf := hf.1 c_30
      obtain ⟨q_10, hf⟩ := hf
      obtain ⟨v3_9, e_v3_9⟩ : ∃ z : Int, z = v3_2 + 1 := ⟨_, rfl⟩
      replace hf := hf v3_9 e_v3_9
      have h_v3_9 : inR v3_9 := by rw [e_v3_9]; exact q_10
      refine g_iincv hC 3 e_v3_9 [(3, J v3_9), (0, .ref (B + 95)), (1, J v1), (2, J v2_5), (4, J v4_6)] dX12_isTorn_82 rfl (by decide) rfl ?_
      refine g_goto hC 4 dX12_isTorn_85 rfl ?_
      refine g_sub [(0, .ref (B + 95)), (1, J v1), (2, J v2_5), (3, J v3_9)] [1, 2, 3, 0] rfl ?_
      exact ih4 v2_5 v3_9 hf h_v2_5 h_v3_9
    · replace hf := hf.2 c_30
      refine g_aload_n hC 0 dX12_isTorn_24 rfl rfl ?_
      refine g_iload hC 4 dX12_isTorn_25 rfl ?_
      refine g_iconst hC dX12_isTorn_27 ?_
      refine g_callVI hC (sk := []) [J v4_6, J 4] (c_X12_its l B D K v4_6 4 h_v4_6 (by unfold inR; omega) M hM _ hf) yv_X12_its wm_X12_252 okX12.1 sc95 rfl ⟨Nat.le_of_ble_eq_true rfl, Nat.le_of_ble_eq_true rfl, Nat.le_of_ble_eq_true rfl, Nat.le_of_ble_eq_true rfl⟩ rfl (Nat.le_of_ble_eq_true rfl) dX12_isTorn_28 ?_
      rintro r_11 M_12 h_r_11 - ⟨rfl, hf⟩
      refine g_iload_n hC 1 dX12_isTorn_31 rfl rfl ?_
      refine g_icmp_ne hC 76 h_r_11 i_v1 dX12_isTorn_32 rfl (fun c_29 => ?_) (fun c_29 => ?_)
      · replace hf := hf.1 c_29
        obtain ⟨q_14, hf⟩ := hf
        obtain ⟨v4_13, e_v4_13⟩ : ∃ z : Int, z = v4_6 + 1 := ⟨_, rfl⟩
        replace hf := hf v4_13 e_v4_13
        have h_v4_13 : inR v4_13 := by rw [e_v4_13]; exact q_14
        refine g_iincv hC 4 e_v4_13 [(4, J v4_13), (0, .ref (B + 95)), (1, J v1), (2, J v2_5), (3, J v3_2)] dX12_isTorn_76 rfl (by decide) rfl ?_
        refine g_goto hC 15 dX12_isTorn_79 rfl ?_
        refine g_sub [(0, .ref (B + 95)), (1, J v1), (2, J v2_5), (3, J v3_2), (4, J v4_13)] [1, 2, 3, 4, 0] rfl ?_
        exact ih15 v2_5 v4_13 hf h_v2_5 h_v4_13
      · replace hf := hf.2 c_29
        refine g_aload_n hC 0 dX12_isTorn_35 rfl rfl ?_
        refine g_iload hC 4 dX12_isTorn_36 rfl ?_
        refine g_iconst hC dX12_isTorn_38 ?_
        refine g_callVI hC (sk := []) [J v4_6, J 0] (c_X12_its l B D K v4_6 0 h_v4_6 (by unfold inR; omega) M hM _ hf) yv_X12_its wm_X12_252 okX12.1 sc95 rfl ⟨Nat.le_of_ble_eq_true rfl, Nat.le_of_ble_eq_true rfl, Nat.le_of_ble_eq_true rfl, Nat.le_of_ble_eq_true rfl⟩ rfl (Nat.le_of_ble_eq_true rfl) dX12_isTorn_39 ?_
        rintro r_15 M_16 h_r_15 - ⟨rfl, hf⟩
        refine g_aload_n hC 0 dX12_isTorn_42 rfl rfl ?_
        refine g_getr hC okX12 sc95 16 (by decide) rfl wf_X12_30 dX12_isTorn_43 ?_
        refine g_iload_n hC 3 dX12_isTorn_46 rfl rfl ?_
        obtain ⟨q_17, hf⟩ := hf
        refine g_ialdk (v3_2.toNat) hC sc101 q_17.1 q_17.2 rfl dX12_isTorn_47 ?_
        refine g_icmp_ne hC 76 h_r_15 (hM _ _) dX12_isTorn_48 rfl (fun c_28 => ?_) (fun c_28 => ?_)
        · replace hf := hf.1 c_28
          obtain ⟨q_19, hf⟩ := hf
          obtain ⟨v4_18, e_v4_18⟩ : ∃ z : Int, z = v4_6 + 1 := ⟨_, rfl⟩
          replace hf := hf v4_18 e_v4_18
          have h_v4_18 : inR v4_18 := by rw [e_v4_18]; exact q_19
          refine g_iincv hC 4 e_v4_18 [(4, J v4_18), (0, .ref (B + 95)), (1, J v1), (2, J v2_5), (3, J v3_2)] dX12_isTorn_76 rfl (by decide) rfl ?_
          refine g_goto hC 15 dX12_isTorn_79 rfl ?_
          refine g_sub [(0, .ref (B + 95)), (1, J v1), (2, J v2_5), (3, J v3_2), (4, J v4_18)] [1, 2, 3, 4, 0] rfl ?_
          exact ih15 v2_5 v4_18 hf h_v2_5 h_v4_18
        · replace hf := hf.2 c_28
          refine g_iload_n hC 2 dX12_isTorn_51 rfl rfl ?_
          refine g_iconst hC dX12_isTorn_52 ?_
          refine g_icmp_eq hC 73 h_v2_5 (by unfold inR; omega) dX12_isTorn_53 rfl (fun c_27 => ?_) (fun c_27 => ?_)
          · replace hf := hf.1 c_27
            refine g_iload hC 4 dX12_isTorn_73 rfl ?_
            refine g_istore_n hC [(2, J v4_6), (0, .ref (B + 95)), (1, J v1), (3, J v3_2), (4, J v4_6)] dX12_isTorn_75 rfl (by decide) rfl ?_
            obtain ⟨q_21, hf⟩ := hf
            obtain ⟨v4_20, e_v4_20⟩ : ∃ z : Int, z = v4_6 + 1 := ⟨_, rfl⟩
            replace hf := hf v4_20 e_v4_20
            have h_v4_20 : inR v4_20 := by rw [e_v4_20]; exact q_21
            refine g_iincv hC 4 e_v4_20 [(4, J v4_20), (2, J v4_6), (0, .ref (B + 95)), (1, J v1), (3, J v3_2)] dX12_isTorn_76 rfl (by decide) rfl ?_
            refine g_goto hC 15 dX12_isTorn_79 rfl ?_
            refine g_sub [(0, .ref (B + 95)), (1, J v1), (2, J v4_6), (3, J v3_2), (4, J v4_20)] [2, 3, 1, 4, 0] rfl ?_
            exact ih15 v4_6 v4_20 hf h_v4_6 h_v4_20
          · replace hf := hf.2 c_27
            refine g_aload_n hC 0 dX12_isTorn_56 rfl rfl ?_
            refine g_iload_n hC 2 dX12_isTorn_57 rfl rfl ?_
            refine g_iconst hC dX12_isTorn_58 ?_
            refine g_callVI hC (sk := []) [J v2_5, J 1] (c_X12_its l B D K v2_5 1 h_v2_5 (by unfold inR; omega) M hM _ hf) yv_X12_its wm_X12_252 okX12.1 sc95 rfl ⟨Nat.le_of_ble_eq_true rfl, Nat.le_of_ble_eq_true rfl, Nat.le_of_ble_eq_true rfl, Nat.le_of_ble_eq_true rfl⟩ rfl (Nat.le_of_ble_eq_true rfl) dX12_isTorn_59 ?_
            rintro r_22 M_23 h_r_22 - ⟨rfl, hf⟩
            refine g_aload_n hC 0 dX12_isTorn_62 rfl rfl ?_
            refine g_getr hC okX12 sc95 16 (by decide) rfl wf_X12_30 dX12_isTorn_63 ?_
            refine g_iload_n hC 3 dX12_isTorn_66 rfl rfl ?_
            refine g_ialdk (v3_2.toNat) hC sc101 q_17.1 q_17.2 rfl dX12_isTorn_67 ?_
            refine g_icmp_eq hC 73 h_r_22 (hM _ _) dX12_isTorn_68 rfl (fun c_26 => ?_) (fun c_26 => ?_)
            · replace hf := hf.1 c_26
              refine g_iload hC 4 dX12_isTorn_73 rfl ?_
              refine g_istore_n hC [(2, J v4_6), (0, .ref (B + 95)), (1, J v1), (3, J v3_2), (4, J v4_6)] dX12_isTorn_75 rfl (by decide) rfl ?_
              obtain ⟨q_25, hf⟩ := hf
              obtain ⟨v4_24, e_v4_24⟩ : ∃ z : Int, z = v4_6 + 1 := ⟨_, rfl⟩
              replace hf := hf v4_24 e_v4_24
              have h_v4_24 : inR v4_24 := by rw [e_v4_24]; exact q_25
              refine g_iincv hC 4 e_v4_24 [(4, J v4_24), (2, J v4_6), (0, .ref (B + 95)), (1, J v1), (3, J v3_2)] dX12_isTorn_76 rfl (by decide) rfl ?_
              refine g_goto hC 15 dX12_isTorn_79 rfl ?_
              refine g_sub [(0, .ref (B + 95)), (1, J v1), (2, J v4_6), (3, J v3_2), (4, J v4_24)] [2, 3, 1, 4, 0] rfl ?_
              exact ih15 v4_6 v4_24 hf h_v4_6 h_v4_24
            · replace hf := hf.2 c_26
              refine g_iconst hC dX12_isTorn_71 ?_
              exact g_retz hC (Or.inr rfl) hM ⟨rfl, hf⟩ dX12_isTorn_72
set_option maxHeartbeats 4000000 in
set_option maxRecDepth 100000 in
theorem c_X12_river (l : Launch) (B : Nat) (D : va_G) (K : Nat → ClassId) (v1 : Int) (v2 : Int) (i_v1 : inR v1) (i_v2 : inR v2) (M : Mem) (hM : MR M) (Q : Int → Mem → Prop) (hf : f_X12_river v1 v2 M Q) : CtI l yX12_river cX12_river 7 7 159 B D K [.ref (B + 95), J v1, J v2] M Q := by
  refine ct_i (by decide) (Nat.le_of_ble_eq_true rfl) ?_
  intro p e s m args below meth c hC
  have hC : Cx p s m args meth c D K cX12_river 7 RX12 (some .int) := hC
  unfold f_X12_river at hf
  refine (show G p l e (rmF 7 159) s m args below meth c B D K 7 0 0 (ZI below args s B D K Q) M 0 [(0, .ref (B + 95)), (1, J v1), (2, J v2)] [] from ?_)
  refine g_aload_n hC 0 dX12_river_0 rfl rfl ?_
  refine g_iload_n hC 1 dX12_river_1 rfl rfl ?_
  refine g_callVZ hC (sk := []) [J v1] (c_X12_isRiver l B D K v1 i_v1 M hM _ hf) yv_X12_isRiver wm_X12_341 okX12.1 sc95 rfl ⟨Nat.le_of_ble_eq_true rfl, Nat.le_of_ble_eq_true rfl, Nat.le_of_ble_eq_true rfl, Nat.le_of_ble_eq_true rfl⟩ rfl (Nat.le_of_ble_eq_true rfl) dX12_river_2 ?_
  rintro r_1 M_2 h_r_1 - ⟨rfl, hf⟩
  refine g_if_eq hC 20 (zi_ h_r_1) dX12_river_5 rfl (fun c_39 => ?_) (fun c_39 => ?_)
  · replace hf := hf.1 c_39
    refine g_iconst hC dX12_river_20 ?_
    exact g_reti hC (by unfold inR; omega) hM hf dX12_river_21
  · replace hf := hf.2 c_39
    refine g_iload_n hC 2 dX12_river_8 rfl rfl ?_
    refine g_i2l hC i_v2 dX12_river_9 ?_
    refine g_lconst (n := 0) hC dX12_river_10 (by decide) ?_
    refine g_ldc2 (n := 3) hC wc_X12_349 (by decide) dX12_river_11 ?_
    refine g_callSZ hC (sk := []) [JL v2, JL 0, JL 3] (c_X12_isIn l B D K v2 0 3 (inL_of i_v2) (by unfold inL; omega) (by unfold inL; omega) M hM _ hf) yv_X12_isIn wm_X12_127 rfl ⟨Nat.le_of_ble_eq_true rfl, Nat.le_of_ble_eq_true rfl, Nat.le_of_ble_eq_true rfl, Nat.le_of_ble_eq_true rfl⟩ rfl (Nat.le_of_ble_eq_true rfl) dX12_river_14 ?_
    rintro r_3 M_4 h_r_3 - ⟨rfl, hf⟩
    refine g_if_ne hC 22 (zi_ h_r_3) dX12_river_17 rfl (fun c_38 => ?_) (fun c_38 => ?_)
    · replace hf := hf.1 c_38
      refine g_aload_n hC 0 dX12_river_22 rfl rfl ?_
      refine g_callVV hC (sk := []) [] (c_X12_lays l B D K   M hM _ hf) yv_X12_lays wm_X12_320 okX12.1 sc95 rfl ⟨Nat.le_of_ble_eq_true rfl, Nat.le_of_ble_eq_true rfl, Nat.le_of_ble_eq_true rfl, Nat.le_of_ble_eq_true rfl⟩ rfl (Nat.le_of_ble_eq_true rfl) dX12_river_23 ?_
      intro M_5 h_M_5 hf
      refine g_iconst hC dX12_river_26 ?_
      refine g_istore_n hC [(3, J 0), (0, .ref (B + 95)), (1, J v1), (2, J v2)] dX12_river_27 rfl (by decide) rfl ?_
      refine g_iconst hC dX12_river_28 ?_
      refine g_istore hC [(4, J 0), (3, J 0), (0, .ref (B + 95)), (1, J v1), (2, J v2)] dX12_river_29 (by decide) rfl ?_
      refine g_iconst hC dX12_river_31 ?_
      refine g_istore hC [(5, J (-1)), (4, J 0), (3, J 0), (0, .ref (B + 95)), (1, J v1), (2, J v2)] dX12_river_32 (by decide) rfl ?_
      refine g_aload_n hC 3 dX12_river_34 rfl rfl ?_
      refine g_callVI hC (sk := []) [] (c_X12_reaches l B D K   M_5 h_M_5 _ hf) yv_X12_reaches wm_X12_249 okX12.1 sc95 rfl ⟨Nat.le_of_ble_eq_true rfl, Nat.le_of_ble_eq_true rfl, Nat.le_of_ble_eq_true rfl, Nat.le_of_ble_eq_true rfl⟩ rfl (Nat.le_of_ble_eq_true rfl) dX12_river_35 ?_
      rintro r_6 M_7 h_r_6 - ⟨rfl, hf⟩
      refine g_iconst hC dX12_river_38 ?_
      refine g_isub hC dX12_river_39 ?_
      obtain ⟨q_8, hf⟩ := hf
      refine g_nm (fun v6_9 e_v6_9 => ?_)
      replace hf := hf v6_9 e_v6_9
      have h_v6_9 : inR v6_9 := by rw [e_v6_9]; exact q_8
      refine g_istore hC [(6, J v6_9), (5, J (-1)), (4, J 0), (3, J 0), (0, .ref (B + 95)), (1, J v1), (2, J v2)] dX12_river_40 (by decide) rfl ?_
      refine jn_elim (fun (k : Int → Int → Int → Prop) => ∀ (v3_10 : Int) (v4_11 : Int) (v5_12 : Int), k v3_10 v4_11 v5_12 → (inR v3_10) → (inR v4_11) → (inR v5_12) → G p l e (rmF 7 159) s m args below meth c B D K 7 0 0 (ZI below args s B D K Q) M_5 83 [(0, .ref (B + 95)), (1, J v1), (2, J v2), (3, J v3_10), (4, J v4_11), (5, J v5_12)] []) hf ?_ ?_
      · intro v3_10 v4_11 v5_12 hf h_v3_10 h_v4_11 h_v5_12
        refine g_iload_n hC 2 dX12_river_83 rfl rfl ?_
        refine g_if_ne hC 91 i_v2 dX12_river_84 rfl (fun c_19 => ?_) (fun c_19 => ?_)
        · replace hf := hf.1 c_19
          refine g_iload_n hC 2 dX12_river_91 rfl rfl ?_
          refine g_iconst hC dX12_river_92 ?_
          refine g_icmp_ne hC 101 i_v2 (by unfold inR; omega) dX12_river_93 rfl (fun c_18 => ?_) (fun c_18 => ?_)
          · replace hf := hf.1 c_18
            refine g_iload_n hC 2 dX12_river_101 rfl rfl ?_
            refine g_iconst hC dX12_river_102 ?_
            refine g_icmp_ne hC 117 i_v2 (by unfold inR; omega) dX12_river_103 rfl (fun c_17 => ?_) (fun c_17 => ?_)
            · replace hf := hf.1 c_17
              refine g_iload hC 5 dX12_river_117 rfl ?_
              exact g_reti hC h_v5_12 h_M_5 hf dX12_river_119
            · replace hf := hf.2 c_17
              refine g_aload_n hC 0 dX12_river_106 rfl rfl ?_
              refine g_iload_n hC 1 dX12_river_107 rfl rfl ?_
              refine g_callVZ hC (sk := []) [J v1] (c_X12_isTorn l B D K v1 i_v1 M_5 h_M_5 _ hf) yv_X12_isTorn wm_X12_376 okX12.1 sc95 rfl ⟨Nat.le_of_ble_eq_true rfl, Nat.le_of_ble_eq_true rfl, Nat.le_of_ble_eq_true rfl, Nat.le_of_ble_eq_true rfl⟩ rfl (Nat.le_of_ble_eq_true rfl) dX12_river_108 ?_
              rintro r_13 M_14 h_r_13 - ⟨rfl, hf⟩
              refine g_callSI hC (sk := []) [J r_13] (c_X12_flag l B D K r_13 (zi_ h_r_13) M_5 h_M_5 _ hf) yv_X12_flag wm_X12_255 rfl ⟨Nat.le_of_ble_eq_true rfl, Nat.le_of_ble_eq_true rfl, Nat.le_of_ble_eq_true rfl, Nat.le_of_ble_eq_true rfl⟩ rfl (Nat.le_of_ble_eq_true rfl) dX12_river_111 ?_
              rintro r_15 M_16 h_r_15 - ⟨rfl, hf⟩
              refine g_goto hC 119 dX12_river_114 rfl ?_
              exact g_reti hC h_r_15 h_M_5 hf dX12_river_119
          · replace hf := hf.2 c_18
            refine g_iload hC 4 dX12_river_96 rfl ?_
            refine g_goto hC 119 dX12_river_98 rfl ?_
            exact g_reti hC h_v4_11 h_M_5 hf dX12_river_119
        · replace hf := hf.2 c_19
          refine g_iload_n hC 3 dX12_river_87 rfl rfl ?_
          refine g_goto hC 119 dX12_river_88 rfl ?_
          exact g_reti hC h_v3_10 h_M_5 hf dX12_river_119
      · intro J83 hJ83 hf
        refine g_sub [(0, .ref (B + 95)), (1, J v1), (2, J v2), (3, J 0), (4, J 0), (5, J (-1)), (6, J v6_9)] [4, 5, 6, 3, 2, 1, 0] rfl ?_
        refine wl4_elim (fun (v3_20 : Int) (v4_21 : Int) (v5_22 : Int) (v6_23 : Int) => inR v3_20 → inR v4_21 → inR v5_22 → inR v6_23 → G p l e (rmF 7 159) s m args below meth c B D K 7 0 0 (ZI below args s B D K Q) M_5 42 [(0, .ref (B + 95)), (1, J v1), (2, J v2), (3, J v3_20), (4, J v4_21), (5, J v5_22), (6, J v6_23)] []) ?_ 5000 0 0 (-1) v6_9 hf (by unfold inR; omega) (by unfold inR; omega) (by unfold inR; omega) h_v6_9
        intro rec42 ih42 v3_20 v4_21 v5_22 v6_23 hf h_v3_20 h_v4_21 h_v5_22 h_v6_23
        unfold X12_river_b42 at hf
        refine g_iload hC 6 dX12_river_42 rfl ?_
        refine g_if_lt hC 83 h_v6_23 dX12_river_44 rfl (fun c_37 => ?_) (fun c_37 => ?_)
        · replace hf := hf.1 c_37
          refine g_sub [(0, .ref (B + 95)), (1, J v1), (2, J v2), (3, J v3_20), (4, J v4_21), (5, J v5_22)] [0, 1, 2, 3, 4, 5] rfl ?_
          exact hJ83 v3_20 v4_21 v5_22 hf h_v3_20 h_v4_21 h_v5_22
        · replace hf := hf.2 c_37
          refine g_aload_n hC 0 dX12_river_47 rfl rfl ?_
          refine g_iload hC 6 dX12_river_48 rfl ?_
          refine g_iconst hC dX12_river_50 ?_
          refine g_callVI hC (sk := []) [J v6_23, J 4] (c_X12_its l B D K v6_23 4 h_v6_23 (by unfold inR; omega) M_5 h_M_5 _ hf) yv_X12_its wm_X12_252 okX12.1 sc95 rfl ⟨Nat.le_of_ble_eq_true rfl, Nat.le_of_ble_eq_true rfl, Nat.le_of_ble_eq_true rfl, Nat.le_of_ble_eq_true rfl⟩ rfl (Nat.le_of_ble_eq_true rfl) dX12_river_51 ?_
          rintro r_24 M_25 h_r_24 - ⟨rfl, hf⟩
          refine g_iload_n hC 1 dX12_river_54 rfl rfl ?_
          refine g_icmp_ne hC 77 h_r_24 i_v1 dX12_river_55 rfl (fun c_36 => ?_) (fun c_36 => ?_)
          · replace hf := hf.1 c_36
            obtain ⟨q_27, hf⟩ := hf
            obtain ⟨v6_26, e_v6_26⟩ : ∃ z : Int, z = v6_23 + (-1) := ⟨_, rfl⟩
            replace hf := hf v6_26 e_v6_26
            have h_v6_26 : inR v6_26 := by rw [e_v6_26]; exact q_27
            refine g_iincv hC 6 e_v6_26 [(6, J v6_26), (0, .ref (B + 95)), (1, J v1), (2, J v2), (3, J v3_20), (4, J v4_21), (5, J v5_22)] dX12_river_77 rfl (by decide) rfl ?_
            refine g_goto hC 42 dX12_river_80 rfl ?_
            refine g_sub [(0, .ref (B + 95)), (1, J v1), (2, J v2), (3, J v3_20), (4, J v4_21), (5, J v5_22), (6, J v6_26)] [1, 2, 3, 4, 5, 6, 0] rfl ?_
            exact ih42 v3_20 v4_21 v5_22 v6_26 hf h_v3_20 h_v4_21 h_v5_22 h_v6_26
          · replace hf := hf.2 c_36
            obtain ⟨q_29, hf⟩ := hf
            obtain ⟨v3_28, e_v3_28⟩ : ∃ z : Int, z = v3_20 + 1 := ⟨_, rfl⟩
            replace hf := hf v3_28 e_v3_28
            have h_v3_28 : inR v3_28 := by rw [e_v3_28]; exact q_29
            refine g_iincv hC 3 e_v3_28 [(3, J v3_28), (0, .ref (B + 95)), (1, J v1), (2, J v2), (4, J v4_21), (5, J v5_22), (6, J v6_23)] dX12_river_58 rfl (by decide) rfl ?_
            refine g_iload hC 4 dX12_river_61 rfl ?_
            refine g_aload_n hC 1 dX12_river_63 rfl rfl ?_
            refine g_iload hC 6 dX12_river_64 rfl ?_
            refine g_iconst hC dX12_river_66 ?_
            refine g_callVI hC (sk := [J v4_21]) [J v6_23, J 2] (c_X12_its l B D K v6_23 2 h_v6_23 (by unfold inR; omega) M_5 h_M_5 _ hf) yv_X12_its wm_X12_252 okX12.1 sc95 rfl ⟨Nat.le_of_ble_eq_true rfl, Nat.le_of_ble_eq_true rfl, Nat.le_of_ble_eq_true rfl, Nat.le_of_ble_eq_true rfl⟩ rfl (Nat.le_of_ble_eq_true rfl) dX12_river_67 ?_
            rintro r_30 M_31 h_r_30 - ⟨rfl, hf⟩
            refine g_iadd hC dX12_river_70 ?_
            obtain ⟨q_32, hf⟩ := hf
            refine g_nm (fun v4_33 e_v4_33 => ?_)
            replace hf := hf v4_33 e_v4_33
            have h_v4_33 : inR v4_33 := by rw [e_v4_33]; exact q_32
            refine g_istore hC [(4, J v4_33), (3, J v3_28), (0, .ref (B + 95)), (1, J v1), (2, J v2), (5, J v5_22), (6, J v6_23)] dX12_river_71 (by decide) rfl ?_
            refine g_iload hC 6 dX12_river_73 rfl ?_
            refine g_istore hC [(5, J v6_23), (4, J v4_33), (3, J v3_28), (0, .ref (B + 95)), (1, J v1), (2, J v2), (6, J v6_23)] dX12_river_75 (by decide) rfl ?_
            obtain ⟨q_35, hf⟩ := hf
            obtain ⟨v6_34, e_v6_34⟩ : ∃ z : Int, z = v6_23 + (-1) := ⟨_, rfl⟩
            replace hf := hf v6_34 e_v6_34
            have h_v6_34 : inR v6_34 := by rw [e_v6_34]; exact q_35
            refine g_iincv hC 6 e_v6_34 [(6, J v6_34), (5, J v6_23), (4, J v4_33), (3, J v3_28), (0, .ref (B + 95)), (1, J v1), (2, J v2)] dX12_river_77 rfl (by decide) rfl ?_
            refine g_goto hC 42 dX12_river_80 rfl ?_
            refine g_sub [(0, .ref (B + 95)), (1, J v1), (2, J v2), (3, J v3_28), (4, J v4_33), (5, J v6_23), (6, J v6_34)] [4, 5, 6, 3, 2, 1, 0] rfl ?_
            exact ih42 v3_28 v4_33 v6_23 v6_34 hf h_v3_28 h_v4_33 h_v6_23 h_v6_34
    · replace hf := hf.2 c_38
      refine g_iconst hC dX12_river_20 ?_
      exact g_reti hC (by unfold inR; omega) hM hf dX12_river_21
set_option maxHeartbeats 4000000 in
set_option maxRecDepth 100000 in
theorem c_X12_putsAside (l : Launch) (B : Nat) (D : va_G) (K : Nat → ClassId)   (M : Mem) (hM : MR M) (Q : Mem → Prop) (hf : f_X12_putsAside  M Q) : CtV l yX12_putsAside cX12_putsAside 2 0 0 B D K [.ref (B + 95)] M Q := by
  refine ct_v (by decide) (Nat.le_of_ble_eq_true rfl) ?_
  intro p e s m args below meth c hC
  have hC : Cx p s m args meth c D K cX12_putsAside 2 RX12 none := hC
  unfold f_X12_putsAside at hf
  refine (show G p l e (rmF 0 0) s m args below meth c B D K 2 0 0 (ZV below args s B D K Q) M 0 [(0, .ref (B + 95))] [] from ?_)
  refine g_iconst hC dX12_putsAside_0 ?_
  refine g_istore_n hC [(1, J 0), (0, .ref (B + 95))] dX12_putsAside_1 rfl (by decide) rfl ?_
  refine g_sub [(0, .ref (B + 95)), (1, J 0)] [1, 0] rfl ?_
  refine wl2_elim (fun (v1_1 : Int) (M_2 : Mem) => inR v1_1 → MR M_2 → G p l e (rmF 0 0) s m args below meth c B D K 2 0 0 (ZV below args s B D K Q) M_2 2 [(0, .ref (B + 95)), (1, J v1_1)] []) ?_ 5000 0 M hf (by unfold inR; omega) hM
  intro rec2 ih2 v1_1 M_2 hf h_v1_1 h_M_2
  unfold X12_putsAside_b2 at hf
  refine g_iload_n hC 1 dX12_putsAside_2 rfl rfl ?_
  refine g_sipush hC dX12_putsAside_3 (by decide) ?_
  refine g_icmp_ge hC 27 h_v1_1 (by unfold inR; omega) dX12_putsAside_6 rfl (fun c_7 => ?_) (fun c_7 => ?_)
  · replace hf := hf.1 c_7
    exact g_retv hC h_M_2 hf dX12_putsAside_27
  · replace hf := hf.2 c_7
    refine g_aload_n hC 0 dX12_putsAside_9 rfl rfl ?_
    refine g_getr hC okX12 sc95 34 (by decide) rfl wf_X12_85 dX12_putsAside_10 ?_
    refine g_iload_n hC 1 dX12_putsAside_13 rfl rfl ?_
    refine g_aload_n hC 0 dX12_putsAside_14 rfl rfl ?_
    refine g_getr hC okX12 sc95 13 (by decide) rfl wf_X12_27 dX12_putsAside_15 ?_
    refine g_iload_n hC 1 dX12_putsAside_18 rfl rfl ?_
    obtain ⟨q_3, hf⟩ := hf
    refine g_ialdk (v1_1.toNat) hC sc100 q_3.1 q_3.2 rfl dX12_putsAside_19 ?_
    refine g_iastk (v1_1.toNat) hC sc119 q_3.1 q_3.2 rfl dX12_putsAside_20 ?_
    refine g_nmM (fun M_4 e_M_4 => ?_)
    replace hf := hf M_4 e_M_4
    have h_M_4 : MR M_4 := by rw [e_M_4]; exact MR_st h_M_2 (h_M_2 _ _)
    obtain ⟨q_6, hf⟩ := hf
    obtain ⟨v1_5, e_v1_5⟩ : ∃ z : Int, z = v1_1 + 1 := ⟨_, rfl⟩
    replace hf := hf v1_5 e_v1_5
    have h_v1_5 : inR v1_5 := by rw [e_v1_5]; exact q_6
    refine g_iincv hC 1 e_v1_5 [(1, J v1_5), (0, .ref (B + 95))] dX12_putsAside_21 rfl (by decide) rfl ?_
    refine g_goto hC 2 dX12_putsAside_24 rfl ?_
    refine g_sub [(0, .ref (B + 95)), (1, J v1_5)] [1, 0] rfl ?_
    exact ih2 v1_5 M_4 hf h_v1_5 h_M_4
set_option maxHeartbeats 4000000 in
set_option maxRecDepth 100000 in
theorem c_X12_takesBack (l : Launch) (B : Nat) (D : va_G) (K : Nat → ClassId)   (M : Mem) (hM : MR M) (Q : Mem → Prop) (hf : f_X12_takesBack  M Q) : CtV l yX12_takesBack cX12_takesBack 2 7 159 B D K [.ref (B + 95)] M Q := by
  refine ct_v (by decide) (Nat.le_of_ble_eq_true rfl) ?_
  intro p e s m args below meth c hC
  have hC : Cx p s m args meth c D K cX12_takesBack 2 RX12 none := hC
  unfold f_X12_takesBack at hf
  refine (show G p l e (rmF 7 159) s m args below meth c B D K 2 0 0 (ZV below args s B D K Q) M 0 [(0, .ref (B + 95))] [] from ?_)
  refine g_iconst hC dX12_takesBack_0 ?_
  refine g_istore_n hC [(1, J 0), (0, .ref (B + 95))] dX12_takesBack_1 rfl (by decide) rfl ?_
  refine jn_elim (fun (k : Mem → Prop) => ∀ (M_1 : Mem), k M_1 → (MR M_1) → G p l e (rmF 7 159) s m args below meth c B D K 2 0 0 (ZV below args s B D K Q) M_1 27 [(0, .ref (B + 95))] []) hf ?_ ?_
  · intro M_1 hf h_M_1
    refine g_aload_n hC 0 dX12_takesBack_27 rfl rfl ?_
    refine g_iconst hC dX12_takesBack_28 ?_
    refine g_putz hC okX12 tnX12 sc95 15 (by decide) rfl rfl (by decide) wf_X12_233 (Or.inl rfl) dX12_takesBack_29 ?_
    refine g_nmM (fun M_2 e_M_2 => ?_)
    replace hf := hf M_2 e_M_2
    have h_M_2 : MR M_2 := by rw [e_M_2]; exact MR_st h_M_1 (by unfold inR; omega)
    refine g_aload_n hC 0 dX12_takesBack_32 rfl rfl ?_
    refine g_callVV hC (sk := []) [] (c_X12_lays l B D K   M_2 h_M_2 _ hf) yv_X12_lays wm_X12_320 okX12.1 sc95 rfl ⟨Nat.le_of_ble_eq_true rfl, Nat.le_of_ble_eq_true rfl, Nat.le_of_ble_eq_true rfl, Nat.le_of_ble_eq_true rfl⟩ rfl (Nat.le_of_ble_eq_true rfl) dX12_takesBack_33 ?_
    intro M_3 h_M_3 hf
    exact g_retv hC h_M_3 hf dX12_takesBack_36
  · intro J27 hJ27 hf
    refine g_sub [(0, .ref (B + 95)), (1, J 0)] [1, 0] rfl ?_
    refine wl2_elim (fun (v1_4 : Int) (M_5 : Mem) => inR v1_4 → MR M_5 → G p l e (rmF 7 159) s m args below meth c B D K 2 0 0 (ZV below args s B D K Q) M_5 2 [(0, .ref (B + 95)), (1, J v1_4)] []) ?_ 5000 0 M hf (by unfold inR; omega) hM
    intro rec2 ih2 v1_4 M_5 hf h_v1_4 h_M_5
    unfold X12_takesBack_b2 at hf
    refine g_iload_n hC 1 dX12_takesBack_2 rfl rfl ?_
    refine g_sipush hC dX12_takesBack_3 (by decide) ?_
    refine g_icmp_ge hC 27 h_v1_4 (by unfold inR; omega) dX12_takesBack_6 rfl (fun c_10 => ?_) (fun c_10 => ?_)
    · replace hf := hf.1 c_10
      refine g_sub [(0, .ref (B + 95))] [0] rfl ?_
      exact hJ27 M_5 hf h_M_5
    · replace hf := hf.2 c_10
      refine g_aload_n hC 0 dX12_takesBack_9 rfl rfl ?_
      refine g_getr hC okX12 sc95 13 (by decide) rfl wf_X12_27 dX12_takesBack_10 ?_
      refine g_iload_n hC 1 dX12_takesBack_13 rfl rfl ?_
      refine g_aload_n hC 0 dX12_takesBack_14 rfl rfl ?_
      refine g_getr hC okX12 sc95 34 (by decide) rfl wf_X12_85 dX12_takesBack_15 ?_
      refine g_iload_n hC 1 dX12_takesBack_18 rfl rfl ?_
      obtain ⟨q_6, hf⟩ := hf
      refine g_ialdk (v1_4.toNat) hC sc119 q_6.1 q_6.2 rfl dX12_takesBack_19 ?_
      refine g_iastk (v1_4.toNat) hC sc100 q_6.1 q_6.2 rfl dX12_takesBack_20 ?_
      refine g_nmM (fun M_7 e_M_7 => ?_)
      replace hf := hf M_7 e_M_7
      have h_M_7 : MR M_7 := by rw [e_M_7]; exact MR_st h_M_5 (h_M_5 _ _)
      obtain ⟨q_9, hf⟩ := hf
      obtain ⟨v1_8, e_v1_8⟩ : ∃ z : Int, z = v1_4 + 1 := ⟨_, rfl⟩
      replace hf := hf v1_8 e_v1_8
      have h_v1_8 : inR v1_8 := by rw [e_v1_8]; exact q_9
      refine g_iincv hC 1 e_v1_8 [(1, J v1_8), (0, .ref (B + 95))] dX12_takesBack_21 rfl (by decide) rfl ?_
      refine g_goto hC 2 dX12_takesBack_24 rfl ?_
      refine g_sub [(0, .ref (B + 95)), (1, J v1_8)] [1, 0] rfl ?_
      exact ih2 v1_8 M_7 hf h_v1_8 h_M_7
set_option maxHeartbeats 4000000 in
set_option maxRecDepth 100000 in
theorem c_X12_isOther (l : Launch) (B : Nat) (D : va_G) (K : Nat → ClassId)   (M : Mem) (hM : MR M) (Q : Mem → Prop) (hf : f_X12_isOther  M Q) : CtV l yX12_isOther cX12_isOther 1 0 0 B D K [.ref (B + 95)] M Q := by
  refine ct_v (by decide) (Nat.le_of_ble_eq_true rfl) ?_
  intro p e s m args below meth c hC
  have hC : Cx p s m args meth c D K cX12_isOther 1 RX12 none := hC
  unfold f_X12_isOther at hf
  refine (show G p l e (rmF 0 0) s m args below meth c B D K 1 0 0 (ZV below args s B D K Q) M 0 [(0, .ref (B + 95))] [] from ?_)
  refine g_aload_n hC 0 dX12_isOther_0 rfl rfl ?_
  refine g_iconst hC dX12_isOther_1 ?_
  refine g_putz hC okX12 tnX12 sc95 15 (by decide) rfl rfl (by decide) wf_X12_233 (Or.inl rfl) dX12_isOther_2 ?_
  refine g_nmM (fun M_1 e_M_1 => ?_)
  replace hf := hf M_1 e_M_1
  have h_M_1 : MR M_1 := by rw [e_M_1]; exact MR_st hM (by unfold inR; omega)
  exact g_retv hC h_M_1 hf dX12_isOther_5
set_option maxHeartbeats 4000000 in
set_option maxRecDepth 100000 in
theorem c_X12_canTurnIt (l : Launch) (B : Nat) (D : va_G) (K : Nat → ClassId) (v1 : Int) (i_v1 : inR v1) (M : Mem) (hM : MR M) (Q : Int → Prop) (hf : f_X12_canTurnIt v1 M Q) : CtZ l yX12_canTurnIt cX12_canTurnIt 2 2 47 B D K [.ref (B + 95), J v1] M (fun r M1 => M = M1 ∧ Q r) := by
  refine ct_z (by decide) (Nat.le_of_ble_eq_true rfl) ?_
  intro p e s m args below meth c hC
  have hC : Cx p s m args meth c D K cX12_canTurnIt 2 RX12 (some .boolean) := hC
  unfold f_X12_canTurnIt at hf
  refine (show G p l e (rmF 2 47) s m args below meth c B D K 2 0 0 (ZZ below args s B D K (fun r M1 => M = M1 ∧ Q r)) M 0 [(0, .ref (B + 95)), (1, J v1)] [] from ?_)
  refine g_aload_n hC 0 dX12_canTurnIt_0 rfl rfl ?_
  refine g_iload_n hC 1 dX12_canTurnIt_1 rfl rfl ?_
  refine g_callVZ hC (sk := []) [J v1] (c_X12_isReach l B D K v1 i_v1 M hM _ hf) yv_X12_isReach wm_X12_344 okX12.1 sc95 rfl ⟨Nat.le_of_ble_eq_true rfl, Nat.le_of_ble_eq_true rfl, Nat.le_of_ble_eq_true rfl, Nat.le_of_ble_eq_true rfl⟩ rfl (Nat.le_of_ble_eq_true rfl) dX12_canTurnIt_2 ?_
  rintro r_1 M_2 h_r_1 - ⟨rfl, hf⟩
  refine g_if_eq hC 35 (zi_ h_r_1) dX12_canTurnIt_5 rfl (fun c_10 => ?_) (fun c_10 => ?_)
  · replace hf := hf.1 c_10
    refine g_iconst hC dX12_canTurnIt_35 ?_
    exact g_retz hC (Or.inl rfl) hM ⟨rfl, hf⟩ dX12_canTurnIt_36
  · replace hf := hf.2 c_10
    refine g_aload_n hC 0 dX12_canTurnIt_8 rfl rfl ?_
    refine g_getr hC okX12 sc95 13 (by decide) rfl wf_X12_27 dX12_canTurnIt_9 ?_
    refine g_aload_n hC 0 dX12_canTurnIt_12 rfl rfl ?_
    refine g_iload_n hC 1 dX12_canTurnIt_13 rfl rfl ?_
    refine g_iconst hC dX12_canTurnIt_14 ?_
    refine g_callVI hC (sk := [.ref (B + 100)]) [J v1, J 0] (c_X12_its l B D K v1 0 i_v1 (by unfold inR; omega) M hM _ hf) yv_X12_its wm_X12_252 okX12.1 sc95 rfl ⟨Nat.le_of_ble_eq_true rfl, Nat.le_of_ble_eq_true rfl, Nat.le_of_ble_eq_true rfl, Nat.le_of_ble_eq_true rfl⟩ rfl (Nat.le_of_ble_eq_true rfl) dX12_canTurnIt_15 ?_
    rintro r_3 M_4 h_r_3 - ⟨rfl, hf⟩
    refine g_aload_n hC 0 dX12_canTurnIt_18 rfl rfl ?_
    refine g_iload_n hC 1 dX12_canTurnIt_19 rfl rfl ?_
    refine g_iconst hC dX12_canTurnIt_20 ?_
    refine g_callVI hC (sk := [J r_3, .ref (B + 100)]) [J v1, J 1] (c_X12_its l B D K v1 1 i_v1 (by unfold inR; omega) M hM _ hf) yv_X12_its wm_X12_252 okX12.1 sc95 rfl ⟨Nat.le_of_ble_eq_true rfl, Nat.le_of_ble_eq_true rfl, Nat.le_of_ble_eq_true rfl, Nat.le_of_ble_eq_true rfl⟩ rfl (Nat.le_of_ble_eq_true rfl) dX12_canTurnIt_21 ?_
    rintro r_5 M_6 h_r_5 - ⟨rfl, hf⟩
    refine g_iload_n hC 1 dX12_canTurnIt_24 rfl rfl ?_
    refine g_callSZ hC (sk := []) [.ref (B + 100), J r_3, J r_5, J v1] (c_X12_comes l B D K 100 r_3 r_5 v1 (isIA_of sc100) h_r_3 h_r_5 i_v1 M hM _ hf) yv_X12_comes wm_X12_204 rfl ⟨Nat.le_of_ble_eq_true rfl, Nat.le_of_ble_eq_true rfl, Nat.le_of_ble_eq_true rfl, Nat.le_of_ble_eq_true rfl⟩ rfl (Nat.le_of_ble_eq_true rfl) dX12_canTurnIt_25 ?_
    rintro r_7 M_8 h_r_7 - ⟨rfl, hf⟩
    refine g_if_ne hC 35 (zi_ h_r_7) dX12_canTurnIt_28 rfl (fun c_9 => ?_) (fun c_9 => ?_)
    · replace hf := hf.1 c_9
      refine g_iconst hC dX12_canTurnIt_35 ?_
      exact g_retz hC (Or.inl rfl) hM ⟨rfl, hf⟩ dX12_canTurnIt_36
    · replace hf := hf.2 c_9
      refine g_iconst hC dX12_canTurnIt_31 ?_
      refine g_goto hC 36 dX12_canTurnIt_32 rfl ?_
      exact g_retz hC (Or.inr rfl) hM ⟨rfl, hf⟩ dX12_canTurnIt_36
set_option maxHeartbeats 4000000 in
set_option maxRecDepth 100000 in
theorem c_X12_turns (l : Launch) (B : Nat) (D : va_G) (K : Nat → ClassId) (v1 : Int) (i_v1 : inR v1) (M : Mem) (hM : MR M) (Q : Mem → Prop) (hf : f_X12_turns v1 M Q) : CtV l yX12_turns cX12_turns 3 2 43 B D K [.ref (B + 95), J v1] M Q := by
  refine ct_v (by decide) (Nat.le_of_ble_eq_true rfl) ?_
  intro p e s m args below meth c hC
  have hC : Cx p s m args meth c D K cX12_turns 3 RX12 none := hC
  unfold f_X12_turns at hf
  refine (show G p l e (rmF 2 43) s m args below meth c B D K 3 0 0 (ZV below args s B D K Q) M 0 [(0, .ref (B + 95)), (1, J v1)] [] from ?_)
  refine g_aload_n hC 0 dX12_turns_0 rfl rfl ?_
  refine g_iload_n hC 1 dX12_turns_1 rfl rfl ?_
  refine g_iconst hC dX12_turns_2 ?_
  refine g_callVI hC (sk := []) [J v1, J 0] (c_X12_its l B D K v1 0 i_v1 (by unfold inR; omega) M hM _ hf) yv_X12_its wm_X12_252 okX12.1 sc95 rfl ⟨Nat.le_of_ble_eq_true rfl, Nat.le_of_ble_eq_true rfl, Nat.le_of_ble_eq_true rfl, Nat.le_of_ble_eq_true rfl⟩ rfl (Nat.le_of_ble_eq_true rfl) dX12_turns_3 ?_
  rintro r_1 M_2 h_r_1 - ⟨rfl, hf⟩
  refine g_istore_n hC [(2, J r_1), (0, .ref (B + 95)), (1, J v1)] dX12_turns_6 rfl (by decide) rfl ?_
  refine g_aload_n hC 1 dX12_turns_7 rfl rfl ?_
  refine g_getr hC okX12 sc95 13 (by decide) rfl wf_X12_27 dX12_turns_8 ?_
  refine g_iload_n hC 2 dX12_turns_11 rfl rfl ?_
  refine g_iconst hC dX12_turns_12 ?_
  refine g_callSI hC (sk := [.ref (B + 100)]) [J v1, J 0] (c_X12_reachAt l B D K v1 0 i_v1 (by unfold inR; omega) M hM _ hf) yv_X12_reachAt wm_X12_183 rfl ⟨Nat.le_of_ble_eq_true rfl, Nat.le_of_ble_eq_true rfl, Nat.le_of_ble_eq_true rfl, Nat.le_of_ble_eq_true rfl⟩ rfl (Nat.le_of_ble_eq_true rfl) dX12_turns_13 ?_
  rintro r_3 M_4 h_r_3 - ⟨rfl, hf⟩
  refine g_aload_n hC 1 dX12_turns_16 rfl rfl ?_
  refine g_iload_n hC 2 dX12_turns_17 rfl rfl ?_
  refine g_iconst hC dX12_turns_18 ?_
  refine g_callVI hC (sk := [J r_3, .ref (B + 100)]) [J v1, J 1] (c_X12_its l B D K v1 1 i_v1 (by unfold inR; omega) M hM _ hf) yv_X12_its wm_X12_252 okX12.1 sc95 rfl ⟨Nat.le_of_ble_eq_true rfl, Nat.le_of_ble_eq_true rfl, Nat.le_of_ble_eq_true rfl, Nat.le_of_ble_eq_true rfl⟩ rfl (Nat.le_of_ble_eq_true rfl) dX12_turns_19 ?_
  rintro r_5 M_6 h_r_5 - ⟨rfl, hf⟩
  obtain ⟨q_7, hf⟩ := hf
  refine g_iastk (r_3.toNat) hC sc100 q_7.1 q_7.2 rfl dX12_turns_22 ?_
  refine g_nmM (fun M_8 e_M_8 => ?_)
  replace hf := hf M_8 e_M_8
  have h_M_8 : MR M_8 := by rw [e_M_8]; exact MR_st hM h_r_5
  refine g_aload_n hC 1 dX12_turns_23 rfl rfl ?_
  refine g_getr hC okX12 sc95 13 (by decide) rfl wf_X12_27 dX12_turns_24 ?_
  refine g_iload_n hC 2 dX12_turns_27 rfl rfl ?_
  refine g_iconst hC dX12_turns_28 ?_
  refine g_callSI hC (sk := [.ref (B + 100)]) [J v1, J 1] (c_X12_reachAt l B D K v1 1 i_v1 (by unfold inR; omega) M_8 h_M_8 _ hf) yv_X12_reachAt wm_X12_183 rfl ⟨Nat.le_of_ble_eq_true rfl, Nat.le_of_ble_eq_true rfl, Nat.le_of_ble_eq_true rfl, Nat.le_of_ble_eq_true rfl⟩ rfl (Nat.le_of_ble_eq_true rfl) dX12_turns_29 ?_
  rintro r_9 M_10 h_r_9 - ⟨rfl, hf⟩
  refine g_iload_n hC 0 dX12_turns_32 rfl rfl ?_
  obtain ⟨q_11, hf⟩ := hf
  refine g_iastk (r_9.toNat) hC sc100 q_11.1 q_11.2 rfl dX12_turns_33 ?_
  refine g_nmM (fun M_12 e_M_12 => ?_)
  replace hf := hf M_12 e_M_12
  have h_M_12 : MR M_12 := by rw [e_M_12]; exact MR_st h_M_8 h_r_1
  refine g_aload_n hC 1 dX12_turns_34 rfl rfl ?_
  refine g_callVV hC (sk := []) [] (c_X12_isOther l B D K   M_12 h_M_12 _ hf) yv_X12_isOther wm_X12_379 okX12.1 sc95 rfl ⟨Nat.le_of_ble_eq_true rfl, Nat.le_of_ble_eq_true rfl, Nat.le_of_ble_eq_true rfl, Nat.le_of_ble_eq_true rfl⟩ rfl (Nat.le_of_ble_eq_true rfl) dX12_turns_35 ?_
  intro M_13 h_M_13 hf
  exact g_retv hC h_M_13 hf dX12_turns_38
set_option maxHeartbeats 4000000 in
set_option maxRecDepth 100000 in
theorem c_X12_canTurn (l : Launch) (B : Nat) (D : va_G) (K : Nat → ClassId) (v1 : Int) (i_v1 : inR v1) (M : Mem) (hM : MR M) (Q : Int → Prop) (hf : f_X12_canTurn v1 M Q) : CtI l yX12_canTurn cX12_canTurn 2 3 68 B D K [.ref (B + 95), J v1] M (fun r M1 => M = M1 ∧ Q r) := by
  refine ct_i (by decide) (Nat.le_of_ble_eq_true rfl) ?_
  intro p e s m args below meth c hC
  have hC : Cx p s m args meth c D K cX12_canTurn 2 RX12 (some .int) := hC
  unfold f_X12_canTurn at hf
  refine (show G p l e (rmF 3 68) s m args below meth c B D K 2 0 0 (ZI below args s B D K (fun r M1 => M = M1 ∧ Q r)) M 0 [(0, .ref (B + 95)), (1, J v1)] [] from ?_)
  refine g_aload_n hC 0 dX12_canTurn_0 rfl rfl ?_
  refine g_iload_n hC 1 dX12_canTurn_1 rfl rfl ?_
  refine g_callVZ hC (sk := []) [J v1] (c_X12_isReach l B D K v1 i_v1 M hM _ hf) yv_X12_isReach wm_X12_344 okX12.1 sc95 rfl ⟨Nat.le_of_ble_eq_true rfl, Nat.le_of_ble_eq_true rfl, Nat.le_of_ble_eq_true rfl, Nat.le_of_ble_eq_true rfl⟩ rfl (Nat.le_of_ble_eq_true rfl) dX12_canTurn_2 ?_
  rintro r_1 M_2 h_r_1 - ⟨rfl, hf⟩
  refine g_if_eq hC 19 (zi_ h_r_1) dX12_canTurn_5 rfl (fun c_7 => ?_) (fun c_7 => ?_)
  · replace hf := hf.1 c_7
    refine g_iconst hC dX12_canTurn_19 ?_
    exact g_reti hC (by unfold inR; omega) hM ⟨rfl, hf⟩ dX12_canTurn_20
  · replace hf := hf.2 c_7
    refine g_aload_n hC 0 dX12_canTurn_8 rfl rfl ?_
    refine g_iload_n hC 1 dX12_canTurn_9 rfl rfl ?_
    refine g_callVZ hC (sk := []) [J v1] (c_X12_canTurnIt l B D K v1 i_v1 M hM _ hf) yv_X12_canTurnIt wm_X12_382 okX12.1 sc95 rfl ⟨Nat.le_of_ble_eq_true rfl, Nat.le_of_ble_eq_true rfl, Nat.le_of_ble_eq_true rfl, Nat.le_of_ble_eq_true rfl⟩ rfl (Nat.le_of_ble_eq_true rfl) dX12_canTurn_10 ?_
    rintro r_3 M_4 h_r_3 - ⟨rfl, hf⟩
    refine g_callSI hC (sk := []) [J r_3] (c_X12_flag l B D K r_3 (zi_ h_r_3) M hM _ hf) yv_X12_flag wm_X12_255 rfl ⟨Nat.le_of_ble_eq_true rfl, Nat.le_of_ble_eq_true rfl, Nat.le_of_ble_eq_true rfl, Nat.le_of_ble_eq_true rfl⟩ rfl (Nat.le_of_ble_eq_true rfl) dX12_canTurn_13 ?_
    rintro r_5 M_6 h_r_5 - ⟨rfl, hf⟩
    refine g_goto hC 20 dX12_canTurn_16 rfl ?_
    exact g_reti hC h_r_5 hM ⟨rfl, hf⟩ dX12_canTurn_20
set_option maxHeartbeats 4000000 in
set_option maxRecDepth 100000 in
theorem c_X12_would (l : Launch) (B : Nat) (D : va_G) (K : Nat → ClassId) (v1 : Int) (v2 : Int) (i_v1 : inR v1) (i_v2 : inR v2) (M : Mem) (hM : MR M) (Q : Int → Mem → Prop) (hf : f_X12_would v1 v2 M Q) : CtI l yX12_would cX12_would 5 8 180 B D K [.ref (B + 95), J v1, J v2] M Q := by
  refine ct_i (by decide) (Nat.le_of_ble_eq_true rfl) ?_
  intro p e s m args below meth c hC
  have hC : Cx p s m args meth c D K cX12_would 5 RX12 (some .int) := hC
  unfold f_X12_would at hf
  refine (show G p l e (rmF 8 180) s m args below meth c B D K 5 0 0 (ZI below args s B D K Q) M 0 [(0, .ref (B + 95)), (1, J v1), (2, J v2)] [] from ?_)
  refine g_aload_n hC 0 dX12_would_0 rfl rfl ?_
  refine g_iload_n hC 1 dX12_would_1 rfl rfl ?_
  refine g_callVZ hC (sk := []) [J v1] (c_X12_canTurnIt l B D K v1 i_v1 M hM _ hf) yv_X12_canTurnIt wm_X12_382 okX12.1 sc95 rfl ⟨Nat.le_of_ble_eq_true rfl, Nat.le_of_ble_eq_true rfl, Nat.le_of_ble_eq_true rfl, Nat.le_of_ble_eq_true rfl⟩ rfl (Nat.le_of_ble_eq_true rfl) dX12_would_2 ?_
  rintro r_1 M_2 h_r_1 - ⟨rfl, hf⟩
  refine g_if_eq hC 20 (zi_ h_r_1) dX12_would_5 rfl (fun c_43 => ?_) (fun c_43 => ?_)
  · replace hf := hf.1 c_43
    refine g_iconst hC dX12_would_20 ?_
    exact g_reti hC (by unfold inR; omega) hM hf dX12_would_21
  · replace hf := hf.2 c_43
    refine g_iload_n hC 2 dX12_would_8 rfl rfl ?_
    refine g_i2l hC i_v2 dX12_would_9 ?_
    refine g_lconst (n := 0) hC dX12_would_10 (by decide) ?_
    refine g_ldc2 (n := 2) hC wc_X12_351 (by decide) dX12_would_11 ?_
    refine g_callSZ hC (sk := []) [JL v2, JL 0, JL 2] (c_X12_isIn l B D K v2 0 2 (inL_of i_v2) (by unfold inL; omega) (by unfold inL; omega) M hM _ hf) yv_X12_isIn wm_X12_127 rfl ⟨Nat.le_of_ble_eq_true rfl, Nat.le_of_ble_eq_true rfl, Nat.le_of_ble_eq_true rfl, Nat.le_of_ble_eq_true rfl⟩ rfl (Nat.le_of_ble_eq_true rfl) dX12_would_14 ?_
    rintro r_3 M_4 h_r_3 - ⟨rfl, hf⟩
    refine g_if_ne hC 22 (zi_ h_r_3) dX12_would_17 rfl (fun c_42 => ?_) (fun c_42 => ?_)
    · replace hf := hf.1 c_42
      refine g_aload_n hC 0 dX12_would_22 rfl rfl ?_
      refine g_callVV hC (sk := []) [] (c_X12_lays l B D K   M hM _ hf) yv_X12_lays wm_X12_320 okX12.1 sc95 rfl ⟨Nat.le_of_ble_eq_true rfl, Nat.le_of_ble_eq_true rfl, Nat.le_of_ble_eq_true rfl, Nat.le_of_ble_eq_true rfl⟩ rfl (Nat.le_of_ble_eq_true rfl) dX12_would_23 ?_
      intro M_5 h_M_5 hf
      refine g_iconst hC dX12_would_26 ?_
      refine g_istore_n hC [(3, J 0), (0, .ref (B + 95)), (1, J v1), (2, J v2)] dX12_would_27 rfl (by decide) rfl ?_
      refine jn_elim (fun (k : Mem → Prop) => ∀ (M_6 : Mem), k M_6 → (MR M_6) → G p l e (rmF 8 180) s m args below meth c B D K 5 0 0 (ZI below args s B D K Q) M_6 54 [(0, .ref (B + 95)), (1, J v1), (2, J v2)] []) hf ?_ ?_
      · intro M_6 hf h_M_6
        refine g_aload_n hC 0 dX12_would_54 rfl rfl ?_
        refine g_callVV hC (sk := []) [] (c_X12_putsAside l B D K   M_6 h_M_6 _ hf) yv_X12_putsAside wm_X12_385 okX12.1 sc95 rfl ⟨Nat.le_of_ble_eq_true rfl, Nat.le_of_ble_eq_true rfl, Nat.le_of_ble_eq_true rfl, Nat.le_of_ble_eq_true rfl⟩ rfl (Nat.le_of_ble_eq_true rfl) dX12_would_55 ?_
        intro M_7 h_M_7 hf
        refine g_aload_n hC 0 dX12_would_58 rfl rfl ?_
        refine g_iload_n hC 1 dX12_would_59 rfl rfl ?_
        refine g_callVV hC (sk := []) [J v1] (c_X12_turns l B D K v1 i_v1 M_7 h_M_7 _ hf) yv_X12_turns wm_X12_388 okX12.1 sc95 rfl ⟨Nat.le_of_ble_eq_true rfl, Nat.le_of_ble_eq_true rfl, Nat.le_of_ble_eq_true rfl, Nat.le_of_ble_eq_true rfl⟩ rfl (Nat.le_of_ble_eq_true rfl) dX12_would_60 ?_
        intro M_8 h_M_8 hf
        refine g_aload_n hC 0 dX12_would_63 rfl rfl ?_
        refine g_callVV hC (sk := []) [] (c_X12_lays l B D K   M_8 h_M_8 _ hf) yv_X12_lays wm_X12_320 okX12.1 sc95 rfl ⟨Nat.le_of_ble_eq_true rfl, Nat.le_of_ble_eq_true rfl, Nat.le_of_ble_eq_true rfl, Nat.le_of_ble_eq_true rfl⟩ rfl (Nat.le_of_ble_eq_true rfl) dX12_would_64 ?_
        intro M_9 h_M_9 hf
        refine g_iconst hC dX12_would_67 ?_
        refine g_istore_n hC [(3, J 0), (0, .ref (B + 95)), (1, J v1), (2, J v2)] dX12_would_68 rfl (by decide) rfl ?_
        refine g_iconst hC dX12_would_69 ?_
        refine g_istore hC [(4, J 0), (3, J 0), (0, .ref (B + 95)), (1, J v1), (2, J v2)] dX12_would_70 (by decide) rfl ?_
        refine jn_elim (fun (k : Int → Prop) => ∀ (v3_10 : Int), k v3_10 → (inR v3_10) → G p l e (rmF 8 180) s m args below meth c B D K 5 0 0 (ZI below args s B D K Q) M_9 115 [(0, .ref (B + 95)), (2, J v2), (3, J v3_10)] []) hf ?_ ?_
        · intro v3_10 hf h_v3_10
          refine g_iload_n hC 1 dX12_would_115 rfl rfl ?_
          refine jn_elim (fun (k : Int → Prop) => ∀ (s0_11 : Int), k s0_11 → (inR s0_11) → G p l e (rmF 8 180) s m args below meth c B D K 5 0 0 (ZI below args s B D K Q) M_9 139 [(0, .ref (B + 95))] [J s0_11]) hf ?_ ?_
          · intro s0_11 hf h_s0_11
            refine g_istore hC [(4, J s0_11), (0, .ref (B + 95))] dX12_would_139 (by decide) rfl ?_
            refine g_aload_n hC 1 dX12_would_141 rfl rfl ?_
            refine g_callVV hC (sk := []) [] (c_X12_takesBack l B D K   M_9 h_M_9 _ hf) yv_X12_takesBack wm_X12_391 okX12.1 sc95 rfl ⟨Nat.le_of_ble_eq_true rfl, Nat.le_of_ble_eq_true rfl, Nat.le_of_ble_eq_true rfl, Nat.le_of_ble_eq_true rfl⟩ rfl (Nat.le_of_ble_eq_true rfl) dX12_would_142 ?_
            intro M_12 h_M_12 hf
            refine g_iload hC 0 dX12_would_145 rfl ?_
            exact g_reti hC h_s0_11 h_M_12 hf dX12_would_147
          · intro J139 hJ139 hf
            refine g_if_ne hC 126 i_v2 dX12_would_116 rfl (fun c_18 => ?_) (fun c_18 => ?_)
            · replace hf := hf.1 c_18
              refine g_iload_n hC 1 dX12_would_126 rfl rfl ?_
              refine g_iconst hC dX12_would_127 ?_
              refine g_icmp_ne hC 138 i_v2 (by unfold inR; omega) dX12_would_128 rfl (fun c_15 => ?_) (fun c_15 => ?_)
              · replace hf := hf.1 c_15
                refine g_iload_n hC 2 dX12_would_138 rfl rfl ?_
                refine g_sub [(0, .ref (B + 95))] [0] rfl ?_
                exact hJ139 v3_10 hf h_v3_10
              · replace hf := hf.2 c_15
                refine g_aload_n hC 0 dX12_would_131 rfl rfl ?_
                refine g_callVI hC (sk := []) [] (c_X12_mouths l B D K   M_9 h_M_9 _ hf) yv_X12_mouths wm_X12_326 okX12.1 sc95 rfl ⟨Nat.le_of_ble_eq_true rfl, Nat.le_of_ble_eq_true rfl, Nat.le_of_ble_eq_true rfl, Nat.le_of_ble_eq_true rfl⟩ rfl (Nat.le_of_ble_eq_true rfl) dX12_would_132 ?_
                rintro r_13 M_14 h_r_13 - ⟨rfl, hf⟩
                refine g_goto hC 139 dX12_would_135 rfl ?_
                refine g_sub [(0, .ref (B + 95))] [0] rfl ?_
                exact hJ139 r_13 hf h_r_13
            · replace hf := hf.2 c_18
              refine g_aload_n hC 0 dX12_would_119 rfl rfl ?_
              refine g_callVI hC (sk := []) [] (c_X12_greatestMet l B D K   M_9 h_M_9 _ hf) yv_X12_greatestMet wm_X12_335 okX12.1 sc95 rfl ⟨Nat.le_of_ble_eq_true rfl, Nat.le_of_ble_eq_true rfl, Nat.le_of_ble_eq_true rfl, Nat.le_of_ble_eq_true rfl⟩ rfl (Nat.le_of_ble_eq_true rfl) dX12_would_120 ?_
              rintro r_16 M_17 h_r_16 - ⟨rfl, hf⟩
              refine g_goto hC 139 dX12_would_123 rfl ?_
              refine g_sub [(0, .ref (B + 95))] [0] rfl ?_
              exact hJ139 r_16 hf h_r_16
        · intro J115 hJ115 hf
          refine g_sub [(0, .ref (B + 95)), (2, J v2), (3, J 0), (4, J 0)] [2, 4, 1, 0] rfl ?_
          refine wl2_elim (fun (v3_19 : Int) (v4_20 : Int) => inR v3_19 → inR v4_20 → G p l e (rmF 8 180) s m args below meth c B D K 5 0 0 (ZI below args s B D K Q) M_9 72 [(0, .ref (B + 95)), (2, J v2), (3, J v3_19), (4, J v4_20)] []) ?_ 5000 0 0 hf (by unfold inR; omega) (by unfold inR; omega)
          intro rec72 ih72 v3_19 v4_20 hf h_v3_19 h_v4_20
          unfold X12_would_b72 at hf
          refine g_iload hC 3 dX12_would_72 rfl ?_
          refine g_aload_n hC 0 dX12_would_74 rfl rfl ?_
          refine g_callVI hC (sk := [J v4_20]) [] (c_X12_reaches l B D K   M_9 h_M_9 _ hf) yv_X12_reaches wm_X12_249 okX12.1 sc95 rfl ⟨Nat.le_of_ble_eq_true rfl, Nat.le_of_ble_eq_true rfl, Nat.le_of_ble_eq_true rfl, Nat.le_of_ble_eq_true rfl⟩ rfl (Nat.le_of_ble_eq_true rfl) dX12_would_75 ?_
          rintro r_21 M_22 h_r_21 - ⟨rfl, hf⟩
          refine g_icmp_ge hC 115 h_v4_20 h_r_21 dX12_would_78 rfl (fun c_32 => ?_) (fun c_32 => ?_)
          · replace hf := hf.1 c_32
            refine g_sub [(0, .ref (B + 95)), (2, J v2), (3, J v3_19)] [0, 1, 2] rfl ?_
            exact hJ115 v3_19 hf h_v3_19
          · replace hf := hf.2 c_32
            refine g_iload_n hC 2 dX12_would_81 rfl rfl ?_
            refine g_aload_n hC 0 dX12_would_82 rfl rfl ?_
            refine g_getr hC okX12 sc95 26 (by decide) rfl wf_X12_60 dX12_would_83 ?_
            refine g_iload hC 3 dX12_would_86 rfl ?_
            obtain ⟨q_23, hf⟩ := hf
            refine g_ialdk (v4_20.toNat) hC sc111 q_23.1 q_23.2 rfl dX12_would_88 ?_
            refine g_aload_n hC 0 dX12_would_89 rfl rfl ?_
            refine g_getr hC okX12 sc95 35 (by decide) rfl wf_X12_88 dX12_would_90 ?_
            refine g_iload hC 3 dX12_would_93 rfl ?_
            refine g_ialdk (v4_20.toNat) hC sc120 q_23.1 q_23.2 rfl dX12_would_95 ?_
            refine jn_elim (fun (k : Int → Prop) => ∀ (s1_24 : Int), k s1_24 → ((s1_24 = 0 ∨ s1_24 = 1)) → G p l e (rmF 8 180) s m args below meth c B D K 5 0 0 (ZI below args s B D K Q) M_9 104 [(0, .ref (B + 95)), (2, J v2), (4, J v4_20)] [J s1_24, J v3_19]) hf ?_ ?_
            · intro s1_24 hf h_s1_24
              refine g_callSI hC (sk := [J v3_19]) [J s1_24] (c_X12_flag l B D K s1_24 (zi_ h_s1_24) M_9 h_M_9 _ hf) yv_X12_flag wm_X12_255 rfl ⟨Nat.le_of_ble_eq_true rfl, Nat.le_of_ble_eq_true rfl, Nat.le_of_ble_eq_true rfl, Nat.le_of_ble_eq_true rfl⟩ rfl (Nat.le_of_ble_eq_true rfl) dX12_would_104 ?_
              rintro r_25 M_26 h_r_25 - ⟨rfl, hf⟩
              refine g_iadd hC dX12_would_107 ?_
              obtain ⟨q_27, hf⟩ := hf
              refine g_nm (fun v3_28 e_v3_28 => ?_)
              replace hf := hf v3_28 e_v3_28
              have h_v3_28 : inR v3_28 := by rw [e_v3_28]; exact q_27
              refine g_istore_n hC [(3, J v3_28), (0, .ref (B + 95)), (2, J v2), (4, J v4_20)] dX12_would_108 rfl (by decide) rfl ?_
              obtain ⟨q_30, hf⟩ := hf
              obtain ⟨v4_29, e_v4_29⟩ : ∃ z : Int, z = v4_20 + 1 := ⟨_, rfl⟩
              replace hf := hf v4_29 e_v4_29
              have h_v4_29 : inR v4_29 := by rw [e_v4_29]; exact q_30
              refine g_iincv hC 3 e_v4_29 [(4, J v4_29), (3, J v3_28), (0, .ref (B + 95)), (2, J v2)] dX12_would_109 rfl (by decide) rfl ?_
              refine g_goto hC 72 dX12_would_112 rfl ?_
              refine g_sub [(0, .ref (B + 95)), (2, J v2), (3, J v3_28), (4, J v4_29)] [2, 3, 1, 0] rfl ?_
              exact ih72 v3_28 v4_29 hf h_v3_28 h_v4_29
            · intro J104 hJ104 hf
              refine g_icmp_eq hC 103 (h_M_9 _ _) (h_M_9 _ _) dX12_would_96 rfl (fun c_31 => ?_) (fun c_31 => ?_)
              · replace hf := hf.1 c_31
                refine g_iconst hC dX12_would_103 ?_
                refine g_sub [(0, .ref (B + 95)), (2, J v2), (4, J v4_20)] [0, 1, 3] rfl ?_
                exact hJ104 0 hf (Or.inl rfl)
              · replace hf := hf.2 c_31
                refine g_iconst hC dX12_would_99 ?_
                refine g_goto hC 104 dX12_would_100 rfl ?_
                refine g_sub [(0, .ref (B + 95)), (2, J v2), (4, J v4_20)] [0, 1, 3] rfl ?_
                exact hJ104 1 hf (Or.inr rfl)
      · intro J54 hJ54 hf
        refine g_sub [(0, .ref (B + 95)), (1, J v1), (2, J v2), (3, J 0)] [1, 2, 3, 0] rfl ?_
        refine wl2_elim (fun (v3_33 : Int) (M_34 : Mem) => inR v3_33 → MR M_34 → G p l e (rmF 8 180) s m args below meth c B D K 5 0 0 (ZI below args s B D K Q) M_34 28 [(0, .ref (B + 95)), (1, J v1), (2, J v2), (3, J v3_33)] []) ?_ 5000 0 M_5 hf (by unfold inR; omega) h_M_5
        intro rec28 ih28 v3_33 M_34 hf h_v3_33 h_M_34
        unfold X12_would_b28 at hf
        refine g_iload_n hC 3 dX12_would_28 rfl rfl ?_
        refine g_aload_n hC 0 dX12_would_29 rfl rfl ?_
        refine g_callVI hC (sk := [J v3_33]) [] (c_X12_reaches l B D K   M_34 h_M_34 _ hf) yv_X12_reaches wm_X12_249 okX12.1 sc95 rfl ⟨Nat.le_of_ble_eq_true rfl, Nat.le_of_ble_eq_true rfl, Nat.le_of_ble_eq_true rfl, Nat.le_of_ble_eq_true rfl⟩ rfl (Nat.le_of_ble_eq_true rfl) dX12_would_30 ?_
        rintro r_35 M_36 h_r_35 - ⟨rfl, hf⟩
        refine g_icmp_ge hC 54 h_v3_33 h_r_35 dX12_would_33 rfl (fun c_41 => ?_) (fun c_41 => ?_)
        · replace hf := hf.1 c_41
          refine g_sub [(0, .ref (B + 95)), (1, J v1), (2, J v2)] [0, 1, 2] rfl ?_
          exact hJ54 M_34 hf h_M_34
        · replace hf := hf.2 c_41
          refine g_aload_n hC 0 dX12_would_36 rfl rfl ?_
          refine g_getr hC okX12 sc95 35 (by decide) rfl wf_X12_88 dX12_would_37 ?_
          refine g_iload_n hC 3 dX12_would_40 rfl rfl ?_
          refine g_aload_n hC 0 dX12_would_41 rfl rfl ?_
          refine g_getr hC okX12 sc95 26 (by decide) rfl wf_X12_60 dX12_would_42 ?_
          refine g_iload_n hC 3 dX12_would_45 rfl rfl ?_
          obtain ⟨q_37, hf⟩ := hf
          refine g_ialdk (v3_33.toNat) hC sc111 q_37.1 q_37.2 rfl dX12_would_46 ?_
          refine g_iastk (v3_33.toNat) hC sc120 q_37.1 q_37.2 rfl dX12_would_47 ?_
          refine g_nmM (fun M_38 e_M_38 => ?_)
          replace hf := hf M_38 e_M_38
          have h_M_38 : MR M_38 := by rw [e_M_38]; exact MR_st h_M_34 (h_M_34 _ _)
          obtain ⟨q_40, hf⟩ := hf
          obtain ⟨v3_39, e_v3_39⟩ : ∃ z : Int, z = v3_33 + 1 := ⟨_, rfl⟩
          replace hf := hf v3_39 e_v3_39
          have h_v3_39 : inR v3_39 := by rw [e_v3_39]; exact q_40
          refine g_iincv hC 3 e_v3_39 [(3, J v3_39), (0, .ref (B + 95)), (1, J v1), (2, J v2)] dX12_would_48 rfl (by decide) rfl ?_
          refine g_goto hC 28 dX12_would_51 rfl ?_
          refine g_sub [(0, .ref (B + 95)), (1, J v1), (2, J v2), (3, J v3_39)] [1, 2, 3, 0] rfl ?_
          exact ih28 v3_39 M_38 hf h_v3_39 h_M_38
    · replace hf := hf.2 c_42
      refine g_iconst hC dX12_would_20 ?_
      exact g_reti hC (by unfold inR; omega) hM hf dX12_would_21
set_option maxHeartbeats 4000000 in
set_option maxRecDepth 100000 in
theorem c_X12_removes (l : Launch) (B : Nat) (D : va_G) (K : Nat → ClassId) (v1 : Int) (i_v1 : inR v1) (M : Mem) (hM : MR M) (Q : Mem → Prop) (hf : f_X12_removes v1 M Q) : CtV l yX12_removes cX12_removes 3 1 21 B D K [.ref (B + 95), J v1] M Q := by
  refine ct_v (by decide) (Nat.le_of_ble_eq_true rfl) ?_
  intro p e s m args below meth c hC
  have hC : Cx p s m args meth c D K cX12_removes 3 RX12 none := hC
  unfold f_X12_removes at hf
  refine (show G p l e (rmF 1 21) s m args below meth c B D K 3 0 0 (ZV below args s B D K Q) M 0 [(0, .ref (B + 95)), (1, J v1)] [] from ?_)
  refine g_iload_n hC 1 dX12_removes_0 rfl rfl ?_
  refine g_iconst hC dX12_removes_1 ?_
  refine g_callSI hC (sk := []) [J v1, J 0] (c_X12_reachAt l B D K v1 0 i_v1 (by unfold inR; omega) M hM _ hf) yv_X12_reachAt wm_X12_183 rfl ⟨Nat.le_of_ble_eq_true rfl, Nat.le_of_ble_eq_true rfl, Nat.le_of_ble_eq_true rfl, Nat.le_of_ble_eq_true rfl⟩ rfl (Nat.le_of_ble_eq_true rfl) dX12_removes_2 ?_
  rintro r_1 M_2 h_r_1 - ⟨rfl, hf⟩
  refine g_istore_n hC [(2, J r_1), (0, .ref (B + 95)), (1, J v1)] dX12_removes_5 rfl (by decide) rfl ?_
  refine jn_elim (fun (k : Mem → Prop) => ∀ (M_3 : Mem), k M_3 → (MR M_3) → G p l e (rmF 1 21) s m args below meth c B D K 3 0 0 (ZV below args s B D K Q) M_3 40 [(0, .ref (B + 95))] []) hf ?_ ?_
  · intro M_3 hf h_M_3
    refine g_aload_n hC 0 dX12_removes_40 rfl rfl ?_
    refine g_getr hC okX12 sc95 13 (by decide) rfl wf_X12_27 dX12_removes_41 ?_
    refine g_iconst hC dX12_removes_44 ?_
    refine g_dup2 hC dX12_removes_45 rfl rfl ?_
    refine g_ialdk 1 hC sc100 (by decide) (by decide) rfl dX12_removes_46 ?_
    refine g_iconst hC dX12_removes_47 ?_
    refine g_isub hC dX12_removes_48 ?_
    obtain ⟨q_4, hf⟩ := hf
    refine g_iastk 1 hC sc100 (by decide) (by decide) rfl dX12_removes_49 ?_
    refine g_nmM (fun M_5 e_M_5 => ?_)
    replace hf := hf M_5 e_M_5
    have h_M_5 : MR M_5 := by rw [e_M_5]; exact MR_st h_M_3 q_4
    refine g_aload_n hC 0 dX12_removes_50 rfl rfl ?_
    refine g_callVV hC (sk := []) [] (c_X12_isOther l B D K   M_5 h_M_5 _ hf) yv_X12_isOther wm_X12_379 okX12.1 sc95 rfl ⟨Nat.le_of_ble_eq_true rfl, Nat.le_of_ble_eq_true rfl, Nat.le_of_ble_eq_true rfl, Nat.le_of_ble_eq_true rfl⟩ rfl (Nat.le_of_ble_eq_true rfl) dX12_removes_51 ?_
    intro M_6 h_M_6 hf
    exact g_retv hC h_M_6 hf dX12_removes_54
  · intro J40 hJ40 hf
    refine g_sub [(0, .ref (B + 95)), (2, J r_1)] [1, 0] rfl ?_
    refine wl2_elim (fun (v2_7 : Int) (M_8 : Mem) => inR v2_7 → MR M_8 → G p l e (rmF 1 21) s m args below meth c B D K 3 0 0 (ZV below args s B D K Q) M_8 6 [(0, .ref (B + 95)), (2, J v2_7)] []) ?_ 5000 r_1 M hf h_r_1 hM
    intro rec6 ih6 v2_7 M_8 hf h_v2_7 h_M_8
    unfold X12_removes_b6 at hf
    refine g_iload_n hC 1 dX12_removes_6 rfl rfl ?_
    refine g_aload_n hC 0 dX12_removes_7 rfl rfl ?_
    refine g_callVI hC (sk := [J v2_7]) [] (c_X12_reaches l B D K   M_8 h_M_8 _ hf) yv_X12_reaches wm_X12_249 okX12.1 sc95 rfl ⟨Nat.le_of_ble_eq_true rfl, Nat.le_of_ble_eq_true rfl, Nat.le_of_ble_eq_true rfl, Nat.le_of_ble_eq_true rfl⟩ rfl (Nat.le_of_ble_eq_true rfl) dX12_removes_8 ?_
    rintro r_9 M_10 h_r_9 - ⟨rfl, hf⟩
    refine g_iconst hC dX12_removes_11 ?_
    refine g_isub hC dX12_removes_12 ?_
    refine g_iconst hC dX12_removes_13 ?_
    obtain ⟨q_11, hf⟩ := hf
    refine g_callSI hC (sk := [J v2_7]) [J (r_9 - 1), J 0] (c_X12_reachAt l B D K (r_9 - 1) 0 q_11 (by unfold inR; omega) M_8 h_M_8 _ hf) yv_X12_reachAt wm_X12_183 rfl ⟨Nat.le_of_ble_eq_true rfl, Nat.le_of_ble_eq_true rfl, Nat.le_of_ble_eq_true rfl, Nat.le_of_ble_eq_true rfl⟩ rfl (Nat.le_of_ble_eq_true rfl) dX12_removes_14 ?_
    rintro r_12 M_13 h_r_12 - ⟨rfl, hf⟩
    refine g_icmp_ge hC 40 h_v2_7 h_r_12 dX12_removes_17 rfl (fun c_19 => ?_) (fun c_19 => ?_)
    · replace hf := hf.1 c_19
      refine g_sub [(0, .ref (B + 95))] [0] rfl ?_
      exact hJ40 M_8 hf h_M_8
    · replace hf := hf.2 c_19
      refine g_aload_n hC 0 dX12_removes_20 rfl rfl ?_
      refine g_getr hC okX12 sc95 13 (by decide) rfl wf_X12_27 dX12_removes_21 ?_
      refine g_iload_n hC 1 dX12_removes_24 rfl rfl ?_
      refine g_aload_n hC 0 dX12_removes_25 rfl rfl ?_
      refine g_getr hC okX12 sc95 13 (by decide) rfl wf_X12_27 dX12_removes_26 ?_
      refine g_iload_n hC 1 dX12_removes_29 rfl rfl ?_
      refine g_iconst hC dX12_removes_30 ?_
      refine g_iadd hC dX12_removes_31 ?_
      obtain ⟨q_14, hf⟩ := hf
      refine g_ialdk ((v2_7 + 5).toNat) hC sc100 q_14.1 q_14.2 rfl dX12_removes_32 ?_
      obtain ⟨q_15, hf⟩ := hf
      refine g_iastk (v2_7.toNat) hC sc100 q_15.1 q_15.2 rfl dX12_removes_33 ?_
      refine g_nmM (fun M_16 e_M_16 => ?_)
      replace hf := hf M_16 e_M_16
      have h_M_16 : MR M_16 := by rw [e_M_16]; exact MR_st h_M_8 (h_M_8 _ _)
      obtain ⟨q_18, hf⟩ := hf
      obtain ⟨v2_17, e_v2_17⟩ : ∃ z : Int, z = v2_7 + 1 := ⟨_, rfl⟩
      replace hf := hf v2_17 e_v2_17
      have h_v2_17 : inR v2_17 := by rw [e_v2_17]; exact q_18
      refine g_iincv hC 1 e_v2_17 [(2, J v2_17), (0, .ref (B + 95))] dX12_removes_34 rfl (by decide) rfl ?_
      refine g_goto hC 6 dX12_removes_37 rfl ?_
      refine g_sub [(0, .ref (B + 95)), (2, J v2_17)] [1, 0] rfl ?_
      exact ih6 v2_17 M_16 hf h_v2_17 h_M_16
set_option maxHeartbeats 4000000 in
set_option maxRecDepth 100000 in
theorem c_X12_lossOf (l : Launch) (B : Nat) (D : va_G) (K : Nat → ClassId) (v1 : Int) (i_v1 : inR v1) (M : Mem) (hM : MR M) (Q : Int → Mem → Prop) (hf : f_X12_lossOf v1 M Q) : CtI l yX12_lossOf cX12_lossOf 5 8 180 B D K [.ref (B + 95), J v1] M Q := by
  refine ct_i (by decide) (Nat.le_of_ble_eq_true rfl) ?_
  intro p e s m args below meth c hC
  have hC : Cx p s m args meth c D K cX12_lossOf 5 RX12 (some .int) := hC
  unfold f_X12_lossOf at hf
  refine (show G p l e (rmF 8 180) s m args below meth c B D K 5 0 0 (ZI below args s B D K Q) M 0 [(0, .ref (B + 95)), (1, J v1)] [] from ?_)
  refine g_iconst hC dX12_lossOf_0 ?_
  refine g_istore_n hC [(2, J 0), (0, .ref (B + 95)), (1, J v1)] dX12_lossOf_1 rfl (by decide) rfl ?_
  refine g_aload_n hC 1 dX12_lossOf_2 rfl rfl ?_
  refine g_callVV hC (sk := []) [] (c_X12_lays l B D K   M hM _ hf) yv_X12_lays wm_X12_320 okX12.1 sc95 rfl ⟨Nat.le_of_ble_eq_true rfl, Nat.le_of_ble_eq_true rfl, Nat.le_of_ble_eq_true rfl, Nat.le_of_ble_eq_true rfl⟩ rfl (Nat.le_of_ble_eq_true rfl) dX12_lossOf_3 ?_
  intro M_1 h_M_1 hf
  refine g_iconst hC dX12_lossOf_6 ?_
  refine g_istore_n hC [(3, J 0), (2, J 0), (0, .ref (B + 95)), (1, J v1)] dX12_lossOf_7 rfl (by decide) rfl ?_
  refine jn_elim (fun (k : Int → Prop) => ∀ (v2_2 : Int), k v2_2 → (inR v2_2) → G p l e (rmF 8 180) s m args below meth c B D K 5 0 0 (ZI below args s B D K Q) M_1 36 [(0, .ref (B + 95)), (1, J v1), (2, J v2_2)] []) hf ?_ ?_
  · intro v2_2 hf h_v2_2
    refine g_aload_n hC 0 dX12_lossOf_36 rfl rfl ?_
    refine g_callVI hC (sk := []) [] (c_X12_mouthFlow l B D K   M_1 h_M_1 _ hf) yv_X12_mouthFlow wm_X12_332 okX12.1 sc95 rfl ⟨Nat.le_of_ble_eq_true rfl, Nat.le_of_ble_eq_true rfl, Nat.le_of_ble_eq_true rfl, Nat.le_of_ble_eq_true rfl⟩ rfl (Nat.le_of_ble_eq_true rfl) dX12_lossOf_37 ?_
    rintro r_3 M_4 h_r_3 - ⟨rfl, hf⟩
    refine g_istore_n hC [(3, J r_3), (0, .ref (B + 95)), (1, J v1), (2, J v2_2)] dX12_lossOf_40 rfl (by decide) rfl ?_
    refine g_aload_n hC 1 dX12_lossOf_41 rfl rfl ?_
    refine g_callVV hC (sk := []) [] (c_X12_putsAside l B D K   M_1 h_M_1 _ hf) yv_X12_putsAside wm_X12_385 okX12.1 sc95 rfl ⟨Nat.le_of_ble_eq_true rfl, Nat.le_of_ble_eq_true rfl, Nat.le_of_ble_eq_true rfl, Nat.le_of_ble_eq_true rfl⟩ rfl (Nat.le_of_ble_eq_true rfl) dX12_lossOf_42 ?_
    intro M_5 h_M_5 hf
    refine g_aload_n hC 1 dX12_lossOf_45 rfl rfl ?_
    refine g_iload_n hC 2 dX12_lossOf_46 rfl rfl ?_
    refine g_callVV hC (sk := []) [J v1] (c_X12_removes l B D K v1 i_v1 M_5 h_M_5 _ hf) yv_X12_removes wm_X12_394 okX12.1 sc95 rfl ⟨Nat.le_of_ble_eq_true rfl, Nat.le_of_ble_eq_true rfl, Nat.le_of_ble_eq_true rfl, Nat.le_of_ble_eq_true rfl⟩ rfl (Nat.le_of_ble_eq_true rfl) dX12_lossOf_47 ?_
    intro M_6 h_M_6 hf
    refine g_aload_n hC 1 dX12_lossOf_50 rfl rfl ?_
    refine g_callVV hC (sk := []) [] (c_X12_lays l B D K   M_6 h_M_6 _ hf) yv_X12_lays wm_X12_320 okX12.1 sc95 rfl ⟨Nat.le_of_ble_eq_true rfl, Nat.le_of_ble_eq_true rfl, Nat.le_of_ble_eq_true rfl, Nat.le_of_ble_eq_true rfl⟩ rfl (Nat.le_of_ble_eq_true rfl) dX12_lossOf_51 ?_
    intro M_7 h_M_7 hf
    refine g_iconst hC dX12_lossOf_54 ?_
    refine g_istore hC [(4, J 0), (3, J r_3), (0, .ref (B + 95)), (1, J v1), (2, J v2_2)] dX12_lossOf_55 (by decide) rfl ?_
    refine jn_elim (fun (k : Int → Prop) => ∀ (v3_8 : Int), k v3_8 → (inR v3_8) → G p l e (rmF 8 180) s m args below meth c B D K 5 0 0 (ZI below args s B D K Q) M_7 91 [(0, .ref (B + 95)), (3, J v3_8)] []) hf ?_ ?_
    · intro v3_8 hf h_v3_8
      refine g_aload_n hC 0 dX12_lossOf_91 rfl rfl ?_
      refine g_callVV hC (sk := []) [] (c_X12_takesBack l B D K   M_7 h_M_7 _ hf) yv_X12_takesBack wm_X12_391 okX12.1 sc95 rfl ⟨Nat.le_of_ble_eq_true rfl, Nat.le_of_ble_eq_true rfl, Nat.le_of_ble_eq_true rfl, Nat.le_of_ble_eq_true rfl⟩ rfl (Nat.le_of_ble_eq_true rfl) dX12_lossOf_92 ?_
      intro M_9 h_M_9 hf
      refine g_iload_n hC 1 dX12_lossOf_95 rfl rfl ?_
      exact g_reti hC h_v3_8 h_M_9 hf dX12_lossOf_96
    · intro J91 hJ91 hf
      refine g_sub [(0, .ref (B + 95)), (2, J v2_2), (3, J r_3), (4, J 0)] [2, 4, 1, 0] rfl ?_
      refine wl2_elim (fun (v3_10 : Int) (v4_11 : Int) => inR v3_10 → inR v4_11 → G p l e (rmF 8 180) s m args below meth c B D K 5 0 0 (ZI below args s B D K Q) M_7 57 [(0, .ref (B + 95)), (2, J v2_2), (3, J v3_10), (4, J v4_11)] []) ?_ 5000 r_3 0 hf h_r_3 (by unfold inR; omega)
      intro rec57 ih57 v3_10 v4_11 hf h_v3_10 h_v4_11
      unfold X12_lossOf_b57 at hf
      refine g_iload hC 3 dX12_lossOf_57 rfl ?_
      refine g_aload_n hC 0 dX12_lossOf_59 rfl rfl ?_
      refine g_callVI hC (sk := [J v4_11]) [] (c_X12_places l B D K   M_7 h_M_7 _ hf) yv_X12_places wm_X12_246 okX12.1 sc95 rfl ⟨Nat.le_of_ble_eq_true rfl, Nat.le_of_ble_eq_true rfl, Nat.le_of_ble_eq_true rfl, Nat.le_of_ble_eq_true rfl⟩ rfl (Nat.le_of_ble_eq_true rfl) dX12_lossOf_60 ?_
      rintro r_12 M_13 h_r_12 - ⟨rfl, hf⟩
      refine g_icmp_ge hC 91 h_v4_11 h_r_12 dX12_lossOf_63 rfl (fun c_21 => ?_) (fun c_21 => ?_)
      · replace hf := hf.1 c_21
        refine g_sub [(0, .ref (B + 95)), (3, J v3_10)] [0, 2] rfl ?_
        exact hJ91 v3_10 hf h_v3_10
      · replace hf := hf.2 c_21
        refine g_iload_n hC 1 dX12_lossOf_66 rfl rfl ?_
        refine g_iload hC 3 dX12_lossOf_67 rfl ?_
        refine g_callSZ hC (sk := []) [J v2_2, J v4_11] (c_X12_isOf l B D K v2_2 v4_11 h_v2_2 h_v4_11 M_7 h_M_7 _ hf) yv_X12_isOf wm_X12_187 rfl ⟨Nat.le_of_ble_eq_true rfl, Nat.le_of_ble_eq_true rfl, Nat.le_of_ble_eq_true rfl, Nat.le_of_ble_eq_true rfl⟩ rfl (Nat.le_of_ble_eq_true rfl) dX12_lossOf_69 ?_
        rintro r_14 M_15 h_r_14 - ⟨rfl, hf⟩
        refine g_if_eq hC 85 (zi_ h_r_14) dX12_lossOf_72 rfl (fun c_20 => ?_) (fun c_20 => ?_)
        · replace hf := hf.1 c_20
          obtain ⟨v4_16, e_v4_16⟩ : ∃ z : Int, z = nz (v4_11 + 1) := ⟨_, rfl⟩
          replace hf := hf v4_16 e_v4_16
          have h_v4_16 : inR v4_16 := by rw [e_v4_16]; exact (nz_in _)
          refine g_iincz hC 3 e_v4_16 [(4, J v4_16), (0, .ref (B + 95)), (2, J v2_2), (3, J v3_10)] dX12_lossOf_85 rfl (by decide) rfl ?_
          refine g_goto hC 57 dX12_lossOf_88 rfl ?_
          refine g_sub [(0, .ref (B + 95)), (2, J v2_2), (3, J v3_10), (4, J v4_16)] [1, 2, 3, 0] rfl ?_
          exact ih57 v3_10 v4_16 hf h_v3_10 h_v4_16
        · replace hf := hf.2 c_20
          refine g_iload_n hC 2 dX12_lossOf_75 rfl rfl ?_
          refine g_aload_n hC 0 dX12_lossOf_76 rfl rfl ?_
          refine g_getr hC okX12 sc95 21 (by decide) rfl wf_X12_45 dX12_lossOf_77 ?_
          refine g_iload hC 3 dX12_lossOf_80 rfl ?_
          obtain ⟨q_17, hf⟩ := hf
          refine g_ialdk (v4_11.toNat) hC sc106 q_17.1 q_17.2 rfl dX12_lossOf_82 ?_
          refine g_isub hC dX12_lossOf_83 ?_
          refine g_nz ?_
          refine g_nm (fun v3_18 e_v3_18 => ?_)
          replace hf := hf v3_18 e_v3_18
          have h_v3_18 : inR v3_18 := by rw [e_v3_18]; exact (nz_in _)
          refine g_istore_n hC [(3, J v3_18), (0, .ref (B + 95)), (2, J v2_2), (4, J v4_11)] dX12_lossOf_84 rfl (by decide) rfl ?_
          obtain ⟨v4_19, e_v4_19⟩ : ∃ z : Int, z = nz (v4_11 + 1) := ⟨_, rfl⟩
          replace hf := hf v4_19 e_v4_19
          have h_v4_19 : inR v4_19 := by rw [e_v4_19]; exact (nz_in _)
          refine g_iincz hC 3 e_v4_19 [(4, J v4_19), (3, J v3_18), (0, .ref (B + 95)), (2, J v2_2)] dX12_lossOf_85 rfl (by decide) rfl ?_
          refine g_goto hC 57 dX12_lossOf_88 rfl ?_
          refine g_sub [(0, .ref (B + 95)), (2, J v2_2), (3, J v3_18), (4, J v4_19)] [2, 3, 1, 0] rfl ?_
          exact ih57 v3_18 v4_19 hf h_v3_18 h_v4_19
  · intro J36 hJ36 hf
    refine g_sub [(0, .ref (B + 95)), (1, J v1), (2, J 0), (3, J 0)] [2, 3, 1, 0] rfl ?_
    refine wl2_elim (fun (v2_22 : Int) (v3_23 : Int) => inR v2_22 → inR v3_23 → G p l e (rmF 8 180) s m args below meth c B D K 5 0 0 (ZI below args s B D K Q) M_1 8 [(0, .ref (B + 95)), (1, J v1), (2, J v2_22), (3, J v3_23)] []) ?_ 5000 0 0 hf (by unfold inR; omega) (by unfold inR; omega)
    intro rec8 ih8 v2_22 v3_23 hf h_v2_22 h_v3_23
    unfold X12_lossOf_b8 at hf
    refine g_iload_n hC 3 dX12_lossOf_8 rfl rfl ?_
    refine g_aload_n hC 0 dX12_lossOf_9 rfl rfl ?_
    refine g_callVI hC (sk := [J v3_23]) [] (c_X12_places l B D K   M_1 h_M_1 _ hf) yv_X12_places wm_X12_246 okX12.1 sc95 rfl ⟨Nat.le_of_ble_eq_true rfl, Nat.le_of_ble_eq_true rfl, Nat.le_of_ble_eq_true rfl, Nat.le_of_ble_eq_true rfl⟩ rfl (Nat.le_of_ble_eq_true rfl) dX12_lossOf_10 ?_
    rintro r_24 M_25 h_r_24 - ⟨rfl, hf⟩
    refine g_icmp_ge hC 36 h_v3_23 h_r_24 dX12_lossOf_13 rfl (fun c_32 => ?_) (fun c_32 => ?_)
    · replace hf := hf.1 c_32
      refine g_sub [(0, .ref (B + 95)), (1, J v1), (2, J v2_22)] [0, 1, 2] rfl ?_
      exact hJ36 v2_22 hf h_v2_22
    · replace hf := hf.2 c_32
      refine g_aload_n hC 0 dX12_lossOf_16 rfl rfl ?_
      refine g_iload_n hC 3 dX12_lossOf_17 rfl rfl ?_
      refine g_callVZ hC (sk := []) [J v3_23] (c_X12_isMouth l B D K v3_23 h_v3_23 M_1 h_M_1 _ hf) yv_X12_isMouth wm_X12_317 okX12.1 sc95 rfl ⟨Nat.le_of_ble_eq_true rfl, Nat.le_of_ble_eq_true rfl, Nat.le_of_ble_eq_true rfl, Nat.le_of_ble_eq_true rfl⟩ rfl (Nat.le_of_ble_eq_true rfl) dX12_lossOf_18 ?_
      rintro r_26 M_27 h_r_26 - ⟨rfl, hf⟩
      refine g_if_eq hC 30 (zi_ h_r_26) dX12_lossOf_21 rfl (fun c_31 => ?_) (fun c_31 => ?_)
      · replace hf := hf.1 c_31
        obtain ⟨v3_28, e_v3_28⟩ : ∃ z : Int, z = nz (v3_23 + 1) := ⟨_, rfl⟩
        replace hf := hf v3_28 e_v3_28
        have h_v3_28 : inR v3_28 := by rw [e_v3_28]; exact (nz_in _)
        refine g_iincz hC 3 e_v3_28 [(3, J v3_28), (0, .ref (B + 95)), (1, J v1), (2, J v2_22)] dX12_lossOf_30 rfl (by decide) rfl ?_
        refine g_goto hC 8 dX12_lossOf_33 rfl ?_
        refine g_sub [(0, .ref (B + 95)), (1, J v1), (2, J v2_22), (3, J v3_28)] [1, 2, 3, 0] rfl ?_
        exact ih8 v2_22 v3_28 hf h_v2_22 h_v3_28
      · replace hf := hf.2 c_31
        refine g_iload_n hC 2 dX12_lossOf_24 rfl rfl ?_
        refine g_iconst hC dX12_lossOf_25 ?_
        refine g_iload_n hC 3 dX12_lossOf_26 rfl rfl ?_
        refine g_ishl hC dX12_lossOf_27 ?_
        refine g_ior hC dX12_lossOf_28 ?_
        refine g_nm (fun v2_29 e_v2_29 => ?_)
        replace hf := hf v2_29 e_v2_29
        have h_v2_29 : inR v2_29 := by rw [e_v2_29]; exact (bOr_in _ _)
        refine g_istore_n hC [(2, J v2_29), (0, .ref (B + 95)), (1, J v1), (3, J v3_23)] dX12_lossOf_29 rfl (by decide) rfl ?_
        obtain ⟨v3_30, e_v3_30⟩ : ∃ z : Int, z = nz (v3_23 + 1) := ⟨_, rfl⟩
        replace hf := hf v3_30 e_v3_30
        have h_v3_30 : inR v3_30 := by rw [e_v3_30]; exact (nz_in _)
        refine g_iincz hC 3 e_v3_30 [(3, J v3_30), (2, J v2_29), (0, .ref (B + 95)), (1, J v1)] dX12_lossOf_30 rfl (by decide) rfl ?_
        refine g_goto hC 8 dX12_lossOf_33 rfl ?_
        refine g_sub [(0, .ref (B + 95)), (1, J v1), (2, J v2_29), (3, J v3_30)] [2, 3, 1, 0] rfl ?_
        exact ih8 v2_29 v3_30 hf h_v2_29 h_v3_30
set_option maxHeartbeats 4000000 in
set_option maxRecDepth 100000 in
theorem c_X12_loss (l : Launch) (B : Nat) (D : va_G) (K : Nat → ClassId) (v1 : Int) (i_v1 : inR v1) (M : Mem) (hM : MR M) (Q : Int → Mem → Prop) (hf : f_X12_loss v1 M Q) : CtI l yX12_loss cX12_loss 2 9 204 B D K [.ref (B + 95), J v1] M Q := by
  refine ct_i (by decide) (Nat.le_of_ble_eq_true rfl) ?_
  intro p e s m args below meth c hC
  have hC : Cx p s m args meth c D K cX12_loss 2 RX12 (some .int) := hC
  unfold f_X12_loss at hf
  refine (show G p l e (rmF 9 204) s m args below meth c B D K 2 0 0 (ZI below args s B D K Q) M 0 [(0, .ref (B + 95)), (1, J v1)] [] from ?_)
  refine g_aload_n hC 0 dX12_loss_0 rfl rfl ?_
  refine g_iload_n hC 1 dX12_loss_1 rfl rfl ?_
  refine g_callVZ hC (sk := []) [J v1] (c_X12_isReach l B D K v1 i_v1 M hM _ hf) yv_X12_isReach wm_X12_344 okX12.1 sc95 rfl ⟨Nat.le_of_ble_eq_true rfl, Nat.le_of_ble_eq_true rfl, Nat.le_of_ble_eq_true rfl, Nat.le_of_ble_eq_true rfl⟩ rfl (Nat.le_of_ble_eq_true rfl) dX12_loss_2 ?_
  rintro r_1 M_2 h_r_1 - ⟨rfl, hf⟩
  refine g_if_eq hC 16 (zi_ h_r_1) dX12_loss_5 rfl (fun c_5 => ?_) (fun c_5 => ?_)
  · replace hf := hf.1 c_5
    refine g_iconst hC dX12_loss_16 ?_
    exact g_reti hC (by unfold inR; omega) hM hf dX12_loss_17
  · replace hf := hf.2 c_5
    refine g_aload_n hC 0 dX12_loss_8 rfl rfl ?_
    refine g_iload_n hC 1 dX12_loss_9 rfl rfl ?_
    refine g_callVI hC (sk := []) [J v1] (c_X12_lossOf l B D K v1 i_v1 M hM _ hf) yv_X12_lossOf wm_X12_397 okX12.1 sc95 rfl ⟨Nat.le_of_ble_eq_true rfl, Nat.le_of_ble_eq_true rfl, Nat.le_of_ble_eq_true rfl, Nat.le_of_ble_eq_true rfl⟩ rfl (Nat.le_of_ble_eq_true rfl) dX12_loss_10 ?_
    intro r_3 M_4 h_r_3 h_M_4 hf
    refine g_goto hC 17 dX12_loss_13 rfl ?_
    exact g_reti hC h_r_3 h_M_4 hf dX12_loss_17
set_option maxHeartbeats 4000000 in
set_option maxRecDepth 100000 in
theorem c_X12_starves (l : Launch) (B : Nat) (D : va_G) (K : Nat → ClassId) (v1 : Int) (i_v1 : inR v1) (M : Mem) (hM : MR M) (Q : Int → Mem → Prop) (hf : f_X12_starves v1 M Q) : CtI l yX12_starves cX12_starves 6 9 204 B D K [.ref (B + 95), J v1] M Q := by
  refine ct_i (by decide) (Nat.le_of_ble_eq_true rfl) ?_
  intro p e s m args below meth c hC
  have hC : Cx p s m args meth c D K cX12_starves 6 RX12 (some .int) := hC
  unfold f_X12_starves at hf
  refine (show G p l e (rmF 9 204) s m args below meth c B D K 6 0 0 (ZI below args s B D K Q) M 0 [(0, .ref (B + 95)), (1, J v1)] [] from ?_)
  refine g_aload_n hC 0 dX12_starves_0 rfl rfl ?_
  refine g_callVI hC (sk := []) [] (c_X12_reaches l B D K   M hM _ hf) yv_X12_reaches wm_X12_249 okX12.1 sc95 rfl ⟨Nat.le_of_ble_eq_true rfl, Nat.le_of_ble_eq_true rfl, Nat.le_of_ble_eq_true rfl, Nat.le_of_ble_eq_true rfl⟩ rfl (Nat.le_of_ble_eq_true rfl) dX12_starves_1 ?_
  rintro r_1 M_2 h_r_1 - ⟨rfl, hf⟩
  refine g_if_eq hC 17 h_r_1 dX12_starves_4 rfl (fun c_26 => ?_) (fun c_26 => ?_)
  · replace hf := hf.1 c_26
    refine g_iconst hC dX12_starves_17 ?_
    exact g_reti hC (by unfold inR; omega) hM hf dX12_starves_18
  · replace hf := hf.2 c_26
    refine g_iload_n hC 1 dX12_starves_7 rfl rfl ?_
    refine g_i2l hC i_v1 dX12_starves_8 ?_
    refine g_lconst (n := 0) hC dX12_starves_9 (by decide) ?_
    refine g_lconst (n := 1) hC dX12_starves_10 (by decide) ?_
    refine g_callSZ hC (sk := []) [JL v1, JL 0, JL 1] (c_X12_isIn l B D K v1 0 1 (inL_of i_v1) (by unfold inL; omega) (by unfold inL; omega) M hM _ hf) yv_X12_isIn wm_X12_127 rfl ⟨Nat.le_of_ble_eq_true rfl, Nat.le_of_ble_eq_true rfl, Nat.le_of_ble_eq_true rfl, Nat.le_of_ble_eq_true rfl⟩ rfl (Nat.le_of_ble_eq_true rfl) dX12_starves_11 ?_
    rintro r_3 M_4 h_r_3 - ⟨rfl, hf⟩
    refine g_if_ne hC 19 (zi_ h_r_3) dX12_starves_14 rfl (fun c_25 => ?_) (fun c_25 => ?_)
    · replace hf := hf.1 c_25
      refine g_iconst hC dX12_starves_19 ?_
      refine g_istore_n hC [(2, J 0), (0, .ref (B + 95)), (1, J v1)] dX12_starves_20 rfl (by decide) rfl ?_
      refine g_aload_n hC 1 dX12_starves_21 rfl rfl ?_
      refine g_iconst hC dX12_starves_22 ?_
      refine g_callVI hC (sk := []) [J 0] (c_X12_lossOf l B D K 0 (by unfold inR; omega) M hM _ hf) yv_X12_lossOf wm_X12_397 okX12.1 sc95 rfl ⟨Nat.le_of_ble_eq_true rfl, Nat.le_of_ble_eq_true rfl, Nat.le_of_ble_eq_true rfl, Nat.le_of_ble_eq_true rfl⟩ rfl (Nat.le_of_ble_eq_true rfl) dX12_starves_23 ?_
      intro r_5 M_6 h_r_5 h_M_6 hf
      refine g_istore_n hC [(3, J r_5), (2, J 0), (0, .ref (B + 95)), (1, J v1)] dX12_starves_26 rfl (by decide) rfl ?_
      refine g_iconst hC dX12_starves_27 ?_
      refine g_istore hC [(4, J 1), (3, J r_5), (2, J 0), (0, .ref (B + 95)), (1, J v1)] dX12_starves_28 (by decide) rfl ?_
      refine jn_elim (fun (k : Int → Int → Mem → Prop) => ∀ (v2_7 : Int) (v3_8 : Int) (M_9 : Mem), k v2_7 v3_8 M_9 → (inR v2_7) → (inR v3_8) → (MR M_9) → G p l e (rmF 9 204) s m args below meth c B D K 6 0 0 (ZI below args s B D K Q) M_9 68 [(1, J v1), (2, J v2_7), (3, J v3_8)] []) hf ?_ ?_
      · intro v2_7 v3_8 M_9 hf h_v2_7 h_v3_8 h_M_9
        refine g_iload_n hC 0 dX12_starves_68 rfl rfl ?_
        refine g_if_ne hC 76 i_v1 dX12_starves_69 rfl (fun c_10 => ?_) (fun c_10 => ?_)
        · replace hf := hf.1 c_10
          refine g_iload_n hC 2 dX12_starves_76 rfl rfl ?_
          exact g_reti hC h_v3_8 h_M_9 hf dX12_starves_77
        · replace hf := hf.2 c_10
          refine g_iload_n hC 1 dX12_starves_72 rfl rfl ?_
          refine g_goto hC 77 dX12_starves_73 rfl ?_
          exact g_reti hC h_v2_7 h_M_9 hf dX12_starves_77
      · intro J68 hJ68 hf
        refine g_sub [(0, .ref (B + 95)), (1, J v1), (2, J 0), (3, J r_5), (4, J 1)] [3, 4, 2, 1, 0] rfl ?_
        refine wl4_elim (fun (v2_11 : Int) (v3_12 : Int) (v4_13 : Int) (M_14 : Mem) => inR v2_11 → inR v3_12 → inR v4_13 → MR M_14 → G p l e (rmF 9 204) s m args below meth c B D K 6 0 0 (ZI below args s B D K Q) M_14 30 [(0, .ref (B + 95)), (1, J v1), (2, J v2_11), (3, J v3_12), (4, J v4_13)] []) ?_ 5000 0 r_5 1 M_6 hf (by unfold inR; omega) h_r_5 (by unfold inR; omega) h_M_6
        intro rec30 ih30 v2_11 v3_12 v4_13 M_14 hf h_v2_11 h_v3_12 h_v4_13 h_M_14
        unfold X12_starves_b30 at hf
        refine g_iload hC 4 dX12_starves_30 rfl ?_
        refine g_aload_n hC 0 dX12_starves_32 rfl rfl ?_
        refine g_callVI hC (sk := [J v4_13]) [] (c_X12_reaches l B D K   M_14 h_M_14 _ hf) yv_X12_reaches wm_X12_249 okX12.1 sc95 rfl ⟨Nat.le_of_ble_eq_true rfl, Nat.le_of_ble_eq_true rfl, Nat.le_of_ble_eq_true rfl, Nat.le_of_ble_eq_true rfl⟩ rfl (Nat.le_of_ble_eq_true rfl) dX12_starves_33 ?_
        rintro r_15 M_16 h_r_15 - ⟨rfl, hf⟩
        refine g_icmp_ge hC 68 h_v4_13 h_r_15 dX12_starves_36 rfl (fun c_24 => ?_) (fun c_24 => ?_)
        · replace hf := hf.1 c_24
          refine g_sub [(1, J v1), (2, J v2_11), (3, J v3_12)] [1, 2, 3] rfl ?_
          exact hJ68 v2_11 v3_12 M_14 hf h_v2_11 h_v3_12 h_M_14
        · replace hf := hf.2 c_24
          refine g_aload_n hC 0 dX12_starves_39 rfl rfl ?_
          refine g_iload hC 4 dX12_starves_40 rfl ?_
          refine g_callVI hC (sk := []) [J v4_13] (c_X12_lossOf l B D K v4_13 h_v4_13 M_14 h_M_14 _ hf) yv_X12_lossOf wm_X12_397 okX12.1 sc95 rfl ⟨Nat.le_of_ble_eq_true rfl, Nat.le_of_ble_eq_true rfl, Nat.le_of_ble_eq_true rfl, Nat.le_of_ble_eq_true rfl⟩ rfl (Nat.le_of_ble_eq_true rfl) dX12_starves_42 ?_
          intro r_17 M_18 h_r_17 h_M_18 hf
          refine g_istore hC [(5, J r_17), (0, .ref (B + 95)), (1, J v1), (2, J v2_11), (3, J v3_12), (4, J v4_13)] dX12_starves_45 (by decide) rfl ?_
          refine g_iload hC 0 dX12_starves_47 rfl ?_
          refine g_iload_n hC 4 dX12_starves_49 rfl rfl ?_
          refine g_icmp_gt hC 56 h_r_17 h_v3_12 dX12_starves_50 rfl (fun c_23 => ?_) (fun c_23 => ?_)
          · replace hf := hf.1 c_23
            refine g_iload hC 5 dX12_starves_56 rfl ?_
            refine g_istore_n hC [(2, J v4_13), (5, J r_17), (0, .ref (B + 95)), (1, J v1), (3, J v3_12), (4, J v4_13)] dX12_starves_58 rfl (by decide) rfl ?_
            refine g_iload hC 1 dX12_starves_59 rfl ?_
            refine g_istore_n hC [(3, J r_17), (2, J v4_13), (5, J r_17), (0, .ref (B + 95)), (1, J v1), (4, J v4_13)] dX12_starves_61 rfl (by decide) rfl ?_
            obtain ⟨q_20, hf⟩ := hf
            obtain ⟨v4_19, e_v4_19⟩ : ∃ z : Int, z = v4_13 + 1 := ⟨_, rfl⟩
            replace hf := hf v4_19 e_v4_19
            have h_v4_19 : inR v4_19 := by rw [e_v4_19]; exact q_20
            refine g_iincv hC 5 e_v4_19 [(4, J v4_19), (3, J r_17), (2, J v4_13), (5, J r_17), (0, .ref (B + 95)), (1, J v1)] dX12_starves_62 rfl (by decide) rfl ?_
            refine g_goto hC 30 dX12_starves_65 rfl ?_
            refine g_sub [(0, .ref (B + 95)), (1, J v1), (2, J v4_13), (3, J r_17), (4, J v4_19)] [4, 5, 2, 1, 0] rfl ?_
            exact ih30 v4_13 r_17 v4_19 M_18 hf h_v4_13 h_r_17 h_v4_19 h_M_18
          · replace hf := hf.2 c_23
            refine g_goto hC 62 dX12_starves_53 rfl ?_
            obtain ⟨q_22, hf⟩ := hf
            obtain ⟨v4_21, e_v4_21⟩ : ∃ z : Int, z = v4_13 + 1 := ⟨_, rfl⟩
            replace hf := hf v4_21 e_v4_21
            have h_v4_21 : inR v4_21 := by rw [e_v4_21]; exact q_22
            refine g_iincv hC 5 e_v4_21 [(4, J v4_21), (5, J r_17), (0, .ref (B + 95)), (1, J v1), (2, J v2_11), (3, J v3_12)] dX12_starves_62 rfl (by decide) rfl ?_
            refine g_goto hC 30 dX12_starves_65 rfl ?_
            refine g_sub [(0, .ref (B + 95)), (1, J v1), (2, J v2_11), (3, J v3_12), (4, J v4_21)] [2, 3, 4, 5, 0] rfl ?_
            exact ih30 v2_11 v3_12 v4_21 M_18 hf h_v2_11 h_v3_12 h_v4_21 h_M_18
    · replace hf := hf.2 c_25
      refine g_iconst hC dX12_starves_17 ?_
      exact g_reti hC (by unfold inR; omega) hM hf dX12_starves_18
set_option maxHeartbeats 4000000 in
set_option maxRecDepth 100000 in
theorem c_X12_findsWay (l : Launch) (B : Nat) (D : va_G) (K : Nat → ClassId) (v1 : Int) (i_v1 : inR v1) (M : Mem) (hM : MR M) (Q : Int → Mem → Prop) (hf : f_X12_findsWay v1 M Q) : CtZ l yX12_findsWay cX12_findsWay 7 2 43 B D K [.ref (B + 95), J v1] M Q := by
  refine ct_z (by decide) (Nat.le_of_ble_eq_true rfl) ?_
  intro p e s m args below meth c hC
  have hC : Cx p s m args meth c D K cX12_findsWay 7 RX12 (some .boolean) := hC
  unfold f_X12_findsWay at hf
  refine (show G p l e (rmF 2 43) s m args below meth c B D K 7 0 0 (ZZ below args s B D K Q) M 0 [(0, .ref (B + 95)), (1, J v1)] [] from ?_)
  refine g_aload_n hC 0 dX12_findsWay_0 rfl rfl ?_
  refine g_callVI hC (sk := []) [] (c_X12_sources l B D K   M hM _ hf) yv_X12_sources wm_X12_268 okX12.1 sc95 rfl ⟨Nat.le_of_ble_eq_true rfl, Nat.le_of_ble_eq_true rfl, Nat.le_of_ble_eq_true rfl, Nat.le_of_ble_eq_true rfl⟩ rfl (Nat.le_of_ble_eq_true rfl) dX12_findsWay_1 ?_
  rintro r_1 M_2 h_r_1 - ⟨rfl, hf⟩
  refine g_istore_n hC [(2, J r_1), (0, .ref (B + 95)), (1, J v1)] dX12_findsWay_4 rfl (by decide) rfl ?_
  refine g_iconst hC dX12_findsWay_5 ?_
  refine g_istore_n hC [(3, J 0), (2, J r_1), (0, .ref (B + 95)), (1, J v1)] dX12_findsWay_6 rfl (by decide) rfl ?_
  refine jn_elim (fun (k : Mem → Prop) => ∀ (M_3 : Mem), k M_3 → (MR M_3) → G p l e (rmF 2 43) s m args below meth c B D K 7 0 0 (ZZ below args s B D K Q) M_3 28 [(0, .ref (B + 95)), (1, J v1), (2, J r_1)] []) hf ?_ ?_
  · intro M_3 hf h_M_3
    refine g_iconst hC dX12_findsWay_28 ?_
    refine g_istore_n hC [(3, J 0), (0, .ref (B + 95)), (1, J v1), (2, J r_1)] dX12_findsWay_29 rfl (by decide) rfl ?_
    refine jn_elim (fun (k : Int → Mem → Prop) => ∀ (v2_4 : Int) (M_5 : Mem), k v2_4 M_5 → (inR v2_4) → (MR M_5) → G p l e (rmF 2 43) s m args below meth c B D K 7 0 0 (ZZ below args s B D K Q) M_5 149 [(0, .ref (B + 95)), (1, J v1), (2, J v2_4)] []) hf ?_ ?_
    · intro v2_4 M_5 hf h_v2_4 h_M_5
      refine g_iload_n hC 2 dX12_findsWay_149 rfl rfl ?_
      refine g_iload_n hC 1 dX12_findsWay_150 rfl rfl ?_
      refine g_callSZ hC (sk := []) [J v2_4, J v1] (c_X12_isOf l B D K v2_4 v1 h_v2_4 i_v1 M_5 h_M_5 _ hf) yv_X12_isOf wm_X12_187 rfl ⟨Nat.le_of_ble_eq_true rfl, Nat.le_of_ble_eq_true rfl, Nat.le_of_ble_eq_true rfl, Nat.le_of_ble_eq_true rfl⟩ rfl (Nat.le_of_ble_eq_true rfl) dX12_findsWay_151 ?_
      rintro r_6 M_7 h_r_6 - ⟨rfl, hf⟩
      refine g_if_ne hC 159 (zi_ h_r_6) dX12_findsWay_154 rfl (fun c_21 => ?_) (fun c_21 => ?_)
      · replace hf := hf.1 c_21
        refine g_iload_n hC 1 dX12_findsWay_159 rfl rfl ?_
        refine g_istore hC [(4, J v1), (0, .ref (B + 95)), (1, J v1), (2, J v2_4)] dX12_findsWay_160 (by decide) rfl ?_
        refine g_sub [(0, .ref (B + 95)), (4, J v1)] [1, 0] rfl ?_
        refine wl2_elim (fun (v4_8 : Int) (M_9 : Mem) => inR v4_8 → MR M_9 → G p l e (rmF 2 43) s m args below meth c B D K 7 0 0 (ZZ below args s B D K Q) M_9 162 [(0, .ref (B + 95)), (4, J v4_8)] []) ?_ 5000 v1 M_5 hf i_v1 h_M_5
        intro rec162 ih162 v4_8 M_9 hf h_v4_8 h_M_9
        unfold X12_findsWay_b162 at hf
        refine g_aload_n hC 0 dX12_findsWay_162 rfl rfl ?_
        refine g_getr hC okX12 sc95 37 (by decide) rfl wf_X12_95 dX12_findsWay_163 ?_
        refine g_iload hC 1 dX12_findsWay_166 rfl ?_
        obtain ⟨q_10, hf⟩ := hf
        refine g_ialdk (v4_8.toNat) hC sc122 q_10.1 q_10.2 rfl dX12_findsWay_168 ?_
        refine g_iconst hC dX12_findsWay_169 ?_
        refine g_icmp_eq hC 230 (h_M_9 _ _) (by unfold inR; omega) dX12_findsWay_170 rfl (fun c_20 => ?_) (fun c_20 => ?_)
        · replace hf := hf.1 c_20
          refine g_iconst hC dX12_findsWay_230 ?_
          exact g_retz hC (Or.inr rfl) h_M_9 hf dX12_findsWay_231
        · replace hf := hf.2 c_20
          refine g_aload_n hC 0 dX12_findsWay_173 rfl rfl ?_
          refine g_getr hC okX12 sc95 37 (by decide) rfl wf_X12_95 dX12_findsWay_174 ?_
          refine g_iload hC 1 dX12_findsWay_177 rfl ?_
          refine g_ialdk (v4_8.toNat) hC sc122 q_10.1 q_10.2 rfl dX12_findsWay_179 ?_
          refine g_nm (fun v5_11 e_v5_11 => ?_)
          replace hf := hf v5_11 e_v5_11
          have h_v5_11 : inR v5_11 := by rw [e_v5_11]; exact (h_M_9 _ _)
          refine g_istore hC [(5, J v5_11), (0, .ref (B + 95)), (4, J v4_8)] dX12_findsWay_180 (by decide) rfl ?_
          refine g_aload_n hC 1 dX12_findsWay_182 rfl rfl ?_
          refine g_iload hC 0 dX12_findsWay_183 rfl ?_
          refine g_aload_n hC 1 dX12_findsWay_185 rfl rfl ?_
          refine g_getr hC okX12 sc95 36 (by decide) rfl wf_X12_91 dX12_findsWay_186 ?_
          refine g_iload hC 0 dX12_findsWay_189 rfl ?_
          obtain ⟨q_12, hf⟩ := hf
          refine g_zaldk (v5_11.toNat) hC sc121 q_12.1 q_12.2 rfl dX12_findsWay_191 ?_
          refine jn_elim (fun (k : Int → Prop) => ∀ (s2_13 : Int), k s2_13 → ((s2_13 = 0 ∨ s2_13 = 1)) → G p l e (rmF 2 43) s m args below meth c B D K 7 0 0 (ZZ below args s B D K Q) M_9 200 [(0, .ref (B + 95)), (5, J v5_11)] [J s2_13, J v5_11, .ref (B + 95)]) hf ?_ ?_
          · intro s2_13 hf h_s2_13
            refine g_callVI hC (sk := []) [J v5_11, J s2_13] (c_X12_its l B D K v5_11 s2_13 h_v5_11 (zi_ h_s2_13) M_9 h_M_9 _ hf) yv_X12_its wm_X12_252 okX12.1 sc95 rfl ⟨Nat.le_of_ble_eq_true rfl, Nat.le_of_ble_eq_true rfl, Nat.le_of_ble_eq_true rfl, Nat.le_of_ble_eq_true rfl⟩ rfl (Nat.le_of_ble_eq_true rfl) dX12_findsWay_200 ?_
            rintro r_14 M_15 h_r_14 - ⟨rfl, hf⟩
            refine g_istore hC [(4, J r_14), (0, .ref (B + 95)), (5, J v5_11)] dX12_findsWay_203 (by decide) rfl ?_
            refine g_aload_n hC 1 dX12_findsWay_205 rfl rfl ?_
            refine g_getr hC okX12 sc95 36 (by decide) rfl wf_X12_91 dX12_findsWay_206 ?_
            refine g_iload hC 2 dX12_findsWay_209 rfl ?_
            refine g_aload_n hC 1 dX12_findsWay_211 rfl rfl ?_
            refine g_getr hC okX12 sc95 36 (by decide) rfl wf_X12_91 dX12_findsWay_212 ?_
            refine g_iload hC 2 dX12_findsWay_215 rfl ?_
            refine g_zaldk (v5_11.toNat) hC sc121 q_12.1 q_12.2 rfl dX12_findsWay_217 ?_
            refine g_if_ne hC 225 (h_M_9 _ _) dX12_findsWay_218 rfl (fun c_18 => ?_) (fun c_18 => ?_)
            · replace hf := hf.1 c_18
              refine g_iconst hC dX12_findsWay_225 ?_
              refine g_zastk (v5_11.toNat) hC sc121 q_12.1 q_12.2 rfl (Or.inl rfl) dX12_findsWay_226 ?_
              refine g_nmM (fun M_16 e_M_16 => ?_)
              replace hf := hf M_16 e_M_16
              have h_M_16 : MR M_16 := by rw [e_M_16]; exact MR_st h_M_9 (by unfold inR; omega)
              refine g_goto hC 162 dX12_findsWay_227 rfl ?_
              refine g_sub [(0, .ref (B + 95)), (4, J r_14)] [1, 0] rfl ?_
              exact ih162 r_14 M_16 hf h_r_14 h_M_16
            · replace hf := hf.2 c_18
              refine g_iconst hC dX12_findsWay_221 ?_
              refine g_goto hC 226 dX12_findsWay_222 rfl ?_
              refine g_zastk (v5_11.toNat) hC sc121 q_12.1 q_12.2 rfl (Or.inr rfl) dX12_findsWay_226 ?_
              refine g_nmM (fun M_17 e_M_17 => ?_)
              replace hf := hf M_17 e_M_17
              have h_M_17 : MR M_17 := by rw [e_M_17]; exact MR_st h_M_9 (by unfold inR; omega)
              refine g_goto hC 162 dX12_findsWay_227 rfl ?_
              refine g_sub [(0, .ref (B + 95)), (4, J r_14)] [1, 0] rfl ?_
              exact ih162 r_14 M_17 hf h_r_14 h_M_17
          · intro J200 hJ200 hf
            refine g_if_eq hC 199 (h_M_9 _ _) dX12_findsWay_192 rfl (fun c_19 => ?_) (fun c_19 => ?_)
            · replace hf := hf.1 c_19
              refine g_iconst hC dX12_findsWay_199 ?_
              refine g_sub [(0, .ref (B + 95)), (5, J v5_11)] [1, 0] rfl ?_
              exact hJ200 0 hf (Or.inl rfl)
            · replace hf := hf.2 c_19
              refine g_iconst hC dX12_findsWay_195 ?_
              refine g_goto hC 200 dX12_findsWay_196 rfl ?_
              refine g_sub [(0, .ref (B + 95)), (5, J v5_11)] [1, 0] rfl ?_
              exact hJ200 1 hf (Or.inr rfl)
      · replace hf := hf.2 c_21
        refine g_iconst hC dX12_findsWay_157 ?_
        exact g_retz hC (Or.inl rfl) h_M_5 hf dX12_findsWay_158
    · intro J149 hJ149 hf
      refine g_sub [(0, .ref (B + 95)), (1, J v1), (2, J r_1), (3, J 0)] [1, 2, 3, 0] rfl ?_
      refine wl3_elim (fun (v2_22 : Int) (v3_23 : Int) (M_24 : Mem) => inR v2_22 → inR v3_23 → MR M_24 → G p l e (rmF 2 43) s m args below meth c B D K 7 0 0 (ZZ below args s B D K Q) M_24 30 [(0, .ref (B + 95)), (1, J v1), (2, J v2_22), (3, J v3_23)] []) ?_ 5000 r_1 0 M_3 hf h_r_1 (by unfold inR; omega) h_M_3
      intro rec30 ih30 v2_22 v3_23 M_24 hf h_v2_22 h_v3_23 h_M_24
      unfold X12_findsWay_b30 at hf
      refine g_iload_n hC 3 dX12_findsWay_30 rfl rfl ?_
      refine g_iload_n hC 2 dX12_findsWay_31 rfl rfl ?_
      refine g_icmp_eq hC 149 h_v3_23 h_v2_22 dX12_findsWay_32 rfl (fun c_58 => ?_) (fun c_58 => ?_)
      · replace hf := hf.1 c_58
        refine g_sub [(0, .ref (B + 95)), (1, J v1), (2, J v2_22)] [0, 1, 2] rfl ?_
        exact hJ149 v2_22 M_24 hf h_v2_22 h_M_24
      · replace hf := hf.2 c_58
        refine g_iload_n hC 2 dX12_findsWay_35 rfl rfl ?_
        refine g_iload_n hC 1 dX12_findsWay_36 rfl rfl ?_
        refine g_callSZ hC (sk := []) [J v2_22, J v1] (c_X12_isOf l B D K v2_22 v1 h_v2_22 i_v1 M_24 h_M_24 _ hf) yv_X12_isOf wm_X12_187 rfl ⟨Nat.le_of_ble_eq_true rfl, Nat.le_of_ble_eq_true rfl, Nat.le_of_ble_eq_true rfl, Nat.le_of_ble_eq_true rfl⟩ rfl (Nat.le_of_ble_eq_true rfl) dX12_findsWay_37 ?_
        rintro r_25 M_26 h_r_25 - ⟨rfl, hf⟩
        refine g_if_ne hC 149 (zi_ h_r_25) dX12_findsWay_40 rfl (fun c_57 => ?_) (fun c_57 => ?_)
        · replace hf := hf.1 c_57
          refine g_sub [(0, .ref (B + 95)), (1, J v1), (2, J v2_22)] [0, 1, 2] rfl ?_
          exact hJ149 v2_22 M_24 hf h_v2_22 h_M_24
        · replace hf := hf.2 c_57
          refine g_iload_n hC 2 dX12_findsWay_43 rfl rfl ?_
          refine g_istore_n hC [(3, J v2_22), (0, .ref (B + 95)), (1, J v1), (2, J v2_22)] dX12_findsWay_44 rfl (by decide) rfl ?_
          refine g_iconst hC dX12_findsWay_45 ?_
          refine g_istore hC [(4, J 0), (3, J v2_22), (0, .ref (B + 95)), (1, J v1), (2, J v2_22)] dX12_findsWay_46 (by decide) rfl ?_
          refine g_sub [(0, .ref (B + 95)), (1, J v1), (2, J v2_22), (3, J v2_22), (4, J 0)] [2, 3, 4, 1, 0] rfl ?_
          refine wl3_elim (fun (v2_27 : Int) (v4_28 : Int) (M_29 : Mem) => inR v2_27 → inR v4_28 → MR M_29 → G p l e (rmF 2 43) s m args below meth c B D K 7 0 0 (ZZ below args s B D K Q) M_29 48 [(0, .ref (B + 95)), (1, J v1), (2, J v2_27), (3, J v2_22), (4, J v4_28)] []) ?_ 5000 v2_22 0 M_24 hf h_v2_22 (by unfold inR; omega) h_M_24
          intro rec48 ih48 v2_27 v4_28 M_29 hf h_v2_27 h_v4_28 h_M_29
          unfold X12_findsWay_b48 at hf
          refine g_iload hC 4 dX12_findsWay_48 rfl ?_
          refine g_aload_n hC 0 dX12_findsWay_50 rfl rfl ?_
          refine g_callVI hC (sk := [J v4_28]) [] (c_X12_reaches l B D K   M_29 h_M_29 _ hf) yv_X12_reaches wm_X12_249 okX12.1 sc95 rfl ⟨Nat.le_of_ble_eq_true rfl, Nat.le_of_ble_eq_true rfl, Nat.le_of_ble_eq_true rfl, Nat.le_of_ble_eq_true rfl⟩ rfl (Nat.le_of_ble_eq_true rfl) dX12_findsWay_51 ?_
          rintro r_30 M_31 h_r_30 - ⟨rfl, hf⟩
          refine g_icmp_ge hC 146 h_v4_28 h_r_30 dX12_findsWay_54 rfl (fun c_56 => ?_) (fun c_56 => ?_)
          · replace hf := hf.1 c_56
            refine g_goto hC 30 dX12_findsWay_146 rfl ?_
            refine g_sub [(0, .ref (B + 95)), (1, J v1), (2, J v2_27), (3, J v2_22)] [0, 1, 2, 3] rfl ?_
            exact ih30 v2_27 v2_22 M_29 hf h_v2_27 h_v2_22 h_M_29
          · replace hf := hf.2 c_56
            refine g_aload_n hC 0 dX12_findsWay_57 rfl rfl ?_
            refine g_iload hC 4 dX12_findsWay_58 rfl ?_
            refine g_aload_n hC 0 dX12_findsWay_60 rfl rfl ?_
            refine g_getr hC okX12 sc95 36 (by decide) rfl wf_X12_91 dX12_findsWay_61 ?_
            refine g_iload hC 4 dX12_findsWay_64 rfl ?_
            obtain ⟨q_32, hf⟩ := hf
            refine g_zaldk (v4_28.toNat) hC sc121 q_32.1 q_32.2 rfl dX12_findsWay_66 ?_
            refine jn_elim (fun (k : Int → Prop) => ∀ (s2_33 : Int), k s2_33 → ((s2_33 = 0 ∨ s2_33 = 1)) → G p l e (rmF 2 43) s m args below meth c B D K 7 0 0 (ZZ below args s B D K Q) M_29 75 [(0, .ref (B + 95)), (1, J v1), (2, J v2_27), (3, J v2_22), (4, J v4_28)] [J s2_33, J v4_28, .ref (B + 95)]) hf ?_ ?_
            · intro s2_33 hf h_s2_33
              refine g_callVI hC (sk := []) [J v4_28, J s2_33] (c_X12_its l B D K v4_28 s2_33 h_v4_28 (zi_ h_s2_33) M_29 h_M_29 _ hf) yv_X12_its wm_X12_252 okX12.1 sc95 rfl ⟨Nat.le_of_ble_eq_true rfl, Nat.le_of_ble_eq_true rfl, Nat.le_of_ble_eq_true rfl, Nat.le_of_ble_eq_true rfl⟩ rfl (Nat.le_of_ble_eq_true rfl) dX12_findsWay_75 ?_
              rintro r_34 M_35 h_r_34 - ⟨rfl, hf⟩
              refine g_istore hC [(5, J r_34), (0, .ref (B + 95)), (1, J v1), (2, J v2_27), (3, J v2_22), (4, J v4_28)] dX12_findsWay_78 (by decide) rfl ?_
              refine g_aload_n hC 1 dX12_findsWay_80 rfl rfl ?_
              refine g_iload hC 5 dX12_findsWay_81 rfl ?_
              refine g_aload_n hC 1 dX12_findsWay_83 rfl rfl ?_
              refine g_getr hC okX12 sc95 36 (by decide) rfl wf_X12_91 dX12_findsWay_84 ?_
              refine g_iload hC 5 dX12_findsWay_87 rfl ?_
              refine g_zaldk (v4_28.toNat) hC sc121 q_32.1 q_32.2 rfl dX12_findsWay_89 ?_
              refine jn_elim (fun (k : Int → Prop) => ∀ (s2_36 : Int), k s2_36 → ((s2_36 = 0 ∨ s2_36 = 1)) → G p l e (rmF 2 43) s m args below meth c B D K 7 0 0 (ZZ below args s B D K Q) M_29 98 [(0, .ref (B + 95)), (1, J v1), (2, J v2_27), (3, J v2_22), (4, J v4_28), (5, J r_34)] [J s2_36, J v4_28, .ref (B + 95)]) hf ?_ ?_
              · intro s2_36 hf h_s2_36
                refine g_callVI hC (sk := []) [J v4_28, J s2_36] (c_X12_its l B D K v4_28 s2_36 h_v4_28 (zi_ h_s2_36) M_29 h_M_29 _ hf) yv_X12_its wm_X12_252 okX12.1 sc95 rfl ⟨Nat.le_of_ble_eq_true rfl, Nat.le_of_ble_eq_true rfl, Nat.le_of_ble_eq_true rfl, Nat.le_of_ble_eq_true rfl⟩ rfl (Nat.le_of_ble_eq_true rfl) dX12_findsWay_98 ?_
                rintro r_37 M_38 h_r_37 - ⟨rfl, hf⟩
                refine g_istore hC [(6, J r_37), (0, .ref (B + 95)), (1, J v1), (2, J v2_27), (3, J v2_22), (4, J v4_28), (5, J r_34)] dX12_findsWay_101 (by decide) rfl ?_
                refine g_iload_n hC 3 dX12_findsWay_103 rfl rfl ?_
                refine g_iload hC 6 dX12_findsWay_104 rfl ?_
                refine g_callSZ hC (sk := []) [J v2_27, J r_34] (c_X12_isOf l B D K v2_27 r_34 h_v2_27 h_r_34 M_29 h_M_29 _ hf) yv_X12_isOf wm_X12_187 rfl ⟨Nat.le_of_ble_eq_true rfl, Nat.le_of_ble_eq_true rfl, Nat.le_of_ble_eq_true rfl, Nat.le_of_ble_eq_true rfl⟩ rfl (Nat.le_of_ble_eq_true rfl) dX12_findsWay_106 ?_
                rintro r_39 M_40 h_r_39 - ⟨rfl, hf⟩
                refine g_if_eq hC 140 (zi_ h_r_39) dX12_findsWay_109 rfl (fun c_53 => ?_) (fun c_53 => ?_)
                · replace hf := hf.1 c_53
                  obtain ⟨q_42, hf⟩ := hf
                  obtain ⟨v4_41, e_v4_41⟩ : ∃ z : Int, z = v4_28 + 1 := ⟨_, rfl⟩
                  replace hf := hf v4_41 e_v4_41
                  have h_v4_41 : inR v4_41 := by rw [e_v4_41]; exact q_42
                  refine g_iincv hC 5 e_v4_41 [(4, J v4_41), (6, J r_37), (0, .ref (B + 95)), (1, J v1), (2, J v2_27), (3, J v2_22), (5, J r_34)] dX12_findsWay_140 rfl (by decide) rfl ?_
                  refine g_goto hC 48 dX12_findsWay_143 rfl ?_
                  refine g_sub [(0, .ref (B + 95)), (1, J v1), (2, J v2_27), (3, J v2_22), (4, J v4_41)] [2, 3, 4, 5, 0] rfl ?_
                  exact ih48 v2_27 v4_41 M_29 hf h_v2_27 h_v4_41 h_M_29
                · replace hf := hf.2 c_53
                  refine g_iload_n hC 3 dX12_findsWay_112 rfl rfl ?_
                  refine g_iload hC 0 dX12_findsWay_113 rfl ?_
                  refine g_callSZ hC (sk := []) [J v2_27, J r_37] (c_X12_isOf l B D K v2_27 r_37 h_v2_27 h_r_37 M_29 h_M_29 _ hf) yv_X12_isOf wm_X12_187 rfl ⟨Nat.le_of_ble_eq_true rfl, Nat.le_of_ble_eq_true rfl, Nat.le_of_ble_eq_true rfl, Nat.le_of_ble_eq_true rfl⟩ rfl (Nat.le_of_ble_eq_true rfl) dX12_findsWay_115 ?_
                  rintro r_43 M_44 h_r_43 - ⟨rfl, hf⟩
                  refine g_if_eq hC 124 (zi_ h_r_43) dX12_findsWay_118 rfl (fun c_52 => ?_) (fun c_52 => ?_)
                  · replace hf := hf.1 c_52
                    refine g_iload_n hC 3 dX12_findsWay_124 rfl rfl ?_
                    refine g_iconst hC dX12_findsWay_125 ?_
                    refine g_iload hC 0 dX12_findsWay_126 rfl ?_
                    refine g_ishl hC dX12_findsWay_128 ?_
                    refine g_ior hC dX12_findsWay_129 ?_
                    refine g_nm (fun v2_45 e_v2_45 => ?_)
                    replace hf := hf v2_45 e_v2_45
                    have h_v2_45 : inR v2_45 := by rw [e_v2_45]; exact (bOr_in _ _)
                    refine g_istore_n hC [(2, J v2_45), (6, J r_37), (0, .ref (B + 95)), (1, J v1), (3, J v2_22), (4, J v4_28), (5, J r_34)] dX12_findsWay_130 rfl (by decide) rfl ?_
                    refine g_aload_n hC 2 dX12_findsWay_131 rfl rfl ?_
                    refine g_getr hC okX12 sc95 37 (by decide) rfl wf_X12_95 dX12_findsWay_132 ?_
                    refine g_iload hC 1 dX12_findsWay_135 rfl ?_
                    refine g_iload hC 5 dX12_findsWay_137 rfl ?_
                    obtain ⟨q_46, hf⟩ := hf
                    refine g_iastk (r_37.toNat) hC sc122 q_46.1 q_46.2 rfl dX12_findsWay_139 ?_
                    refine g_nmM (fun M_47 e_M_47 => ?_)
                    replace hf := hf M_47 e_M_47
                    have h_M_47 : MR M_47 := by rw [e_M_47]; exact MR_st h_M_29 h_v4_28
                    obtain ⟨q_49, hf⟩ := hf
                    obtain ⟨v4_48, e_v4_48⟩ : ∃ z : Int, z = v4_28 + 1 := ⟨_, rfl⟩
                    replace hf := hf v4_48 e_v4_48
                    have h_v4_48 : inR v4_48 := by rw [e_v4_48]; exact q_49
                    refine g_iincv hC 5 e_v4_48 [(4, J v4_48), (2, J v2_45), (6, J r_37), (0, .ref (B + 95)), (1, J v1), (3, J v2_22), (5, J r_34)] dX12_findsWay_140 rfl (by decide) rfl ?_
                    refine g_goto hC 48 dX12_findsWay_143 rfl ?_
                    refine g_sub [(0, .ref (B + 95)), (1, J v1), (2, J v2_45), (3, J v2_22), (4, J v4_48)] [3, 4, 1, 5, 0] rfl ?_
                    exact ih48 v2_45 v4_48 M_47 hf h_v2_45 h_v4_48 h_M_47
                  · replace hf := hf.2 c_52
                    refine g_goto hC 140 dX12_findsWay_121 rfl ?_
                    obtain ⟨q_51, hf⟩ := hf
                    obtain ⟨v4_50, e_v4_50⟩ : ∃ z : Int, z = v4_28 + 1 := ⟨_, rfl⟩
                    replace hf := hf v4_50 e_v4_50
                    have h_v4_50 : inR v4_50 := by rw [e_v4_50]; exact q_51
                    refine g_iincv hC 5 e_v4_50 [(4, J v4_50), (6, J r_37), (0, .ref (B + 95)), (1, J v1), (2, J v2_27), (3, J v2_22), (5, J r_34)] dX12_findsWay_140 rfl (by decide) rfl ?_
                    refine g_goto hC 48 dX12_findsWay_143 rfl ?_
                    refine g_sub [(0, .ref (B + 95)), (1, J v1), (2, J v2_27), (3, J v2_22), (4, J v4_50)] [2, 3, 4, 5, 0] rfl ?_
                    exact ih48 v2_27 v4_50 M_29 hf h_v2_27 h_v4_50 h_M_29
              · intro J98 hJ98 hf
                refine g_if_eq hC 97 (h_M_29 _ _) dX12_findsWay_90 rfl (fun c_54 => ?_) (fun c_54 => ?_)
                · replace hf := hf.1 c_54
                  refine g_iconst hC dX12_findsWay_97 ?_
                  refine g_sub [(0, .ref (B + 95)), (1, J v1), (2, J v2_27), (3, J v2_22), (4, J v4_28), (5, J r_34)] [1, 2, 3, 4, 5, 0] rfl ?_
                  exact hJ98 1 hf (Or.inr rfl)
                · replace hf := hf.2 c_54
                  refine g_iconst hC dX12_findsWay_93 ?_
                  refine g_goto hC 98 dX12_findsWay_94 rfl ?_
                  refine g_sub [(0, .ref (B + 95)), (1, J v1), (2, J v2_27), (3, J v2_22), (4, J v4_28), (5, J r_34)] [1, 2, 3, 4, 5, 0] rfl ?_
                  exact hJ98 0 hf (Or.inl rfl)
            · intro J75 hJ75 hf
              refine g_if_eq hC 74 (h_M_29 _ _) dX12_findsWay_67 rfl (fun c_55 => ?_) (fun c_55 => ?_)
              · replace hf := hf.1 c_55
                refine g_iconst hC dX12_findsWay_74 ?_
                refine g_sub [(0, .ref (B + 95)), (1, J v1), (2, J v2_27), (3, J v2_22), (4, J v4_28)] [0, 1, 2, 3, 4] rfl ?_
                exact hJ75 0 hf (Or.inl rfl)
              · replace hf := hf.2 c_55
                refine g_iconst hC dX12_findsWay_70 ?_
                refine g_goto hC 75 dX12_findsWay_71 rfl ?_
                refine g_sub [(0, .ref (B + 95)), (1, J v1), (2, J v2_27), (3, J v2_22), (4, J v4_28)] [0, 1, 2, 3, 4] rfl ?_
                exact hJ75 1 hf (Or.inr rfl)
  · intro J28 hJ28 hf
    refine g_sub [(0, .ref (B + 95)), (1, J v1), (2, J r_1), (3, J 0)] [2, 3, 1, 0] rfl ?_
    refine wl2_elim (fun (v3_59 : Int) (M_60 : Mem) => inR v3_59 → MR M_60 → G p l e (rmF 2 43) s m args below meth c B D K 7 0 0 (ZZ below args s B D K Q) M_60 7 [(0, .ref (B + 95)), (1, J v1), (2, J r_1), (3, J v3_59)] []) ?_ 5000 0 M hf (by unfold inR; omega) hM
    intro rec7 ih7 v3_59 M_60 hf h_v3_59 h_M_60
    unfold X12_findsWay_b7 at hf
    refine g_iload_n hC 3 dX12_findsWay_7 rfl rfl ?_
    refine g_aload_n hC 0 dX12_findsWay_8 rfl rfl ?_
    refine g_callVI hC (sk := [J v3_59]) [] (c_X12_places l B D K   M_60 h_M_60 _ hf) yv_X12_places wm_X12_246 okX12.1 sc95 rfl ⟨Nat.le_of_ble_eq_true rfl, Nat.le_of_ble_eq_true rfl, Nat.le_of_ble_eq_true rfl, Nat.le_of_ble_eq_true rfl⟩ rfl (Nat.le_of_ble_eq_true rfl) dX12_findsWay_9 ?_
    rintro r_61 M_62 h_r_61 - ⟨rfl, hf⟩
    refine g_icmp_ge hC 28 h_v3_59 h_r_61 dX12_findsWay_12 rfl (fun c_67 => ?_) (fun c_67 => ?_)
    · replace hf := hf.1 c_67
      refine g_sub [(0, .ref (B + 95)), (1, J v1), (2, J r_1)] [0, 1, 2] rfl ?_
      exact hJ28 M_60 hf h_M_60
    · replace hf := hf.2 c_67
      refine g_aload_n hC 0 dX12_findsWay_15 rfl rfl ?_
      refine g_getr hC okX12 sc95 37 (by decide) rfl wf_X12_95 dX12_findsWay_16 ?_
      refine g_iload_n hC 3 dX12_findsWay_19 rfl rfl ?_
      refine g_iconst hC dX12_findsWay_20 ?_
      obtain ⟨q_63, hf⟩ := hf
      refine g_iastk (v3_59.toNat) hC sc122 q_63.1 q_63.2 rfl dX12_findsWay_21 ?_
      refine g_nmM (fun M_64 e_M_64 => ?_)
      replace hf := hf M_64 e_M_64
      have h_M_64 : MR M_64 := by rw [e_M_64]; exact MR_st h_M_60 (by unfold inR; omega)
      obtain ⟨q_66, hf⟩ := hf
      obtain ⟨v3_65, e_v3_65⟩ : ∃ z : Int, z = v3_59 + 1 := ⟨_, rfl⟩
      replace hf := hf v3_65 e_v3_65
      have h_v3_65 : inR v3_65 := by rw [e_v3_65]; exact q_66
      refine g_iincv hC 3 e_v3_65 [(3, J v3_65), (0, .ref (B + 95)), (1, J v1), (2, J r_1)] dX12_findsWay_22 rfl (by decide) rfl ?_
      refine g_goto hC 7 dX12_findsWay_25 rfl ?_
      refine g_sub [(0, .ref (B + 95)), (1, J v1), (2, J r_1), (3, J v3_65)] [1, 2, 3, 0] rfl ?_
      exact ih7 v3_65 M_64 hf h_v3_65 h_M_64
set_option maxHeartbeats 4000000 in
set_option maxRecDepth 100000 in
theorem c_X12_fewest (l : Launch) (B : Nat) (D : va_G) (K : Nat → ClassId) (v1 : Int) (i_v1 : inR v1) (M : Mem) (hM : MR M) (Q : Int → Mem → Prop) (hf : f_X12_fewest v1 M Q) : CtI l yX12_fewest cX12_fewest 3 7 159 B D K [.ref (B + 95), J v1] M Q := by
  refine ct_i (by decide) (Nat.le_of_ble_eq_true rfl) ?_
  intro p e s m args below meth c hC
  have hC : Cx p s m args meth c D K cX12_fewest 3 RX12 (some .int) := hC
  unfold f_X12_fewest at hf
  refine (show G p l e (rmF 7 159) s m args below meth c B D K 3 0 0 (ZI below args s B D K Q) M 0 [(0, .ref (B + 95)), (1, J v1)] [] from ?_)
  refine g_aload_n hC 0 dX12_fewest_0 rfl rfl ?_
  refine g_iload_n hC 1 dX12_fewest_1 rfl rfl ?_
  refine g_callVZ hC (sk := []) [J v1] (c_X12_isPlace l B D K v1 i_v1 M hM _ hf) yv_X12_isPlace wm_X12_338 okX12.1 sc95 rfl ⟨Nat.le_of_ble_eq_true rfl, Nat.le_of_ble_eq_true rfl, Nat.le_of_ble_eq_true rfl, Nat.le_of_ble_eq_true rfl⟩ rfl (Nat.le_of_ble_eq_true rfl) dX12_fewest_2 ?_
  rintro r_1 M_2 h_r_1 - ⟨rfl, hf⟩
  refine g_if_ne hC 10 (zi_ h_r_1) dX12_fewest_5 rfl (fun c_24 => ?_) (fun c_24 => ?_)
  · replace hf := hf.1 c_24
    refine g_aload_n hC 0 dX12_fewest_10 rfl rfl ?_
    refine g_callVV hC (sk := []) [] (c_X12_lays l B D K   M hM _ hf) yv_X12_lays wm_X12_320 okX12.1 sc95 rfl ⟨Nat.le_of_ble_eq_true rfl, Nat.le_of_ble_eq_true rfl, Nat.le_of_ble_eq_true rfl, Nat.le_of_ble_eq_true rfl⟩ rfl (Nat.le_of_ble_eq_true rfl) dX12_fewest_11 ?_
    intro M_3 h_M_3 hf
    refine g_aload_n hC 0 dX12_fewest_14 rfl rfl ?_
    refine g_iload_n hC 1 dX12_fewest_15 rfl rfl ?_
    refine g_callVZ hC (sk := []) [J v1] (c_X12_isSource l B D K v1 i_v1 M_3 h_M_3 _ hf) yv_X12_isSource wm_X12_262 okX12.1 sc95 rfl ⟨Nat.le_of_ble_eq_true rfl, Nat.le_of_ble_eq_true rfl, Nat.le_of_ble_eq_true rfl, Nat.le_of_ble_eq_true rfl⟩ rfl (Nat.le_of_ble_eq_true rfl) dX12_fewest_16 ?_
    rintro r_4 M_5 h_r_4 - ⟨rfl, hf⟩
    refine g_if_eq hC 24 (zi_ h_r_4) dX12_fewest_19 rfl (fun c_23 => ?_) (fun c_23 => ?_)
    · replace hf := hf.1 c_23
      refine g_iconst hC dX12_fewest_24 ?_
      refine g_istore_n hC [(2, J 0), (0, .ref (B + 95)), (1, J v1)] dX12_fewest_25 rfl (by decide) rfl ?_
      refine jn_elim (fun (k : Mem → Prop) => ∀ (M_6 : Mem), k M_6 → (MR M_6) → G p l e (rmF 7 159) s m args below meth c B D K 3 0 0 (ZI below args s B D K Q) M_6 47 [(0, .ref (B + 95)), (1, J v1)] []) hf ?_ ?_
      · intro M_6 hf h_M_6
        refine g_iconst hC dX12_fewest_47 ?_
        refine g_istore_n hC [(2, J 0), (0, .ref (B + 95)), (1, J v1)] dX12_fewest_48 rfl (by decide) rfl ?_
        refine g_sub [(0, .ref (B + 95)), (1, J v1), (2, J 0)] [1, 2, 0] rfl ?_
        refine wl2_elim (fun (v2_7 : Int) (M_8 : Mem) => inR v2_7 → MR M_8 → G p l e (rmF 7 159) s m args below meth c B D K 3 0 0 (ZI below args s B D K Q) M_8 49 [(0, .ref (B + 95)), (1, J v1), (2, J v2_7)] []) ?_ 5000 0 M_6 hf (by unfold inR; omega) h_M_6
        intro rec49 ih49 v2_7 M_8 hf h_v2_7 h_M_8
        unfold X12_fewest_b49 at hf
        refine g_aload_n hC 0 dX12_fewest_49 rfl rfl ?_
        refine g_iload_n hC 1 dX12_fewest_50 rfl rfl ?_
        refine g_callVZ hC (sk := []) [J v1] (c_X12_findsWay l B D K v1 i_v1 M_8 h_M_8 _ hf) yv_X12_findsWay wm_X12_400 okX12.1 sc95 rfl ⟨Nat.le_of_ble_eq_true rfl, Nat.le_of_ble_eq_true rfl, Nat.le_of_ble_eq_true rfl, Nat.le_of_ble_eq_true rfl⟩ rfl (Nat.le_of_ble_eq_true rfl) dX12_fewest_51 ?_
        intro r_9 M_10 h_r_9 h_M_10 hf
        refine g_if_eq hC 63 (zi_ h_r_9) dX12_fewest_54 rfl (fun c_13 => ?_) (fun c_13 => ?_)
        · replace hf := hf.1 c_13
          refine g_iload_n hC 2 dX12_fewest_63 rfl rfl ?_
          exact g_reti hC h_v2_7 h_M_10 hf dX12_fewest_64
        · replace hf := hf.2 c_13
          obtain ⟨q_12, hf⟩ := hf
          obtain ⟨v2_11, e_v2_11⟩ : ∃ z : Int, z = v2_7 + 1 := ⟨_, rfl⟩
          replace hf := hf v2_11 e_v2_11
          have h_v2_11 : inR v2_11 := by rw [e_v2_11]; exact q_12
          refine g_iincv hC 2 e_v2_11 [(2, J v2_11), (0, .ref (B + 95)), (1, J v1)] dX12_fewest_57 rfl (by decide) rfl ?_
          refine g_goto hC 49 dX12_fewest_60 rfl ?_
          refine g_sub [(0, .ref (B + 95)), (1, J v1), (2, J v2_11)] [1, 2, 0] rfl ?_
          exact ih49 v2_11 M_10 hf h_v2_11 h_M_10
      · intro J47 hJ47 hf
        refine g_sub [(0, .ref (B + 95)), (1, J v1), (2, J 0)] [1, 2, 0] rfl ?_
        refine wl2_elim (fun (v2_14 : Int) (M_15 : Mem) => inR v2_14 → MR M_15 → G p l e (rmF 7 159) s m args below meth c B D K 3 0 0 (ZI below args s B D K Q) M_15 26 [(0, .ref (B + 95)), (1, J v1), (2, J v2_14)] []) ?_ 5000 0 M_3 hf (by unfold inR; omega) h_M_3
        intro rec26 ih26 v2_14 M_15 hf h_v2_14 h_M_15
        unfold X12_fewest_b26 at hf
        refine g_iload_n hC 2 dX12_fewest_26 rfl rfl ?_
        refine g_aload_n hC 0 dX12_fewest_27 rfl rfl ?_
        refine g_callVI hC (sk := [J v2_14]) [] (c_X12_reaches l B D K   M_15 h_M_15 _ hf) yv_X12_reaches wm_X12_249 okX12.1 sc95 rfl ⟨Nat.le_of_ble_eq_true rfl, Nat.le_of_ble_eq_true rfl, Nat.le_of_ble_eq_true rfl, Nat.le_of_ble_eq_true rfl⟩ rfl (Nat.le_of_ble_eq_true rfl) dX12_fewest_28 ?_
        rintro r_16 M_17 h_r_16 - ⟨rfl, hf⟩
        refine g_icmp_ge hC 47 h_v2_14 h_r_16 dX12_fewest_31 rfl (fun c_22 => ?_) (fun c_22 => ?_)
        · replace hf := hf.1 c_22
          refine g_sub [(0, .ref (B + 95)), (1, J v1)] [0, 1] rfl ?_
          exact hJ47 M_15 hf h_M_15
        · replace hf := hf.2 c_22
          refine g_aload_n hC 0 dX12_fewest_34 rfl rfl ?_
          refine g_getr hC okX12 sc95 36 (by decide) rfl wf_X12_91 dX12_fewest_35 ?_
          refine g_iload_n hC 2 dX12_fewest_38 rfl rfl ?_
          refine g_iconst hC dX12_fewest_39 ?_
          obtain ⟨q_18, hf⟩ := hf
          refine g_zastk (v2_14.toNat) hC sc121 q_18.1 q_18.2 rfl (Or.inl rfl) dX12_fewest_40 ?_
          refine g_nmM (fun M_19 e_M_19 => ?_)
          replace hf := hf M_19 e_M_19
          have h_M_19 : MR M_19 := by rw [e_M_19]; exact MR_st h_M_15 (by unfold inR; omega)
          obtain ⟨q_21, hf⟩ := hf
          obtain ⟨v2_20, e_v2_20⟩ : ∃ z : Int, z = v2_14 + 1 := ⟨_, rfl⟩
          replace hf := hf v2_20 e_v2_20
          have h_v2_20 : inR v2_20 := by rw [e_v2_20]; exact q_21
          refine g_iincv hC 2 e_v2_20 [(2, J v2_20), (0, .ref (B + 95)), (1, J v1)] dX12_fewest_41 rfl (by decide) rfl ?_
          refine g_goto hC 26 dX12_fewest_44 rfl ?_
          refine g_sub [(0, .ref (B + 95)), (1, J v1), (2, J v2_20)] [1, 2, 0] rfl ?_
          exact ih26 v2_20 M_19 hf h_v2_20 h_M_19
    · replace hf := hf.2 c_23
      refine g_iconst hC dX12_fewest_22 ?_
      exact g_reti hC (by unfold inR; omega) h_M_3 hf dX12_fewest_23
  · replace hf := hf.2 c_24
    refine g_iconst hC dX12_fewest_8 ?_
    exact g_reti hC (by unfold inR; omega) hM hf dX12_fewest_9
set_option maxHeartbeats 4000000 in
set_option maxRecDepth 100000 in
theorem c_X12_hourOf (l : Launch) (B : Nat) (D : va_G) (K : Nat → ClassId) (v1 : Int) (v2 : Int) (i_v1 : inR v1) (i_v2 : inR v2) (M : Mem) (hM : MR M) (Q : Int → Prop) (hf : f_X12_hourOf v1 v2 M Q) : CtI l yX12_hourOf cX12_hourOf 6 5 114 B D K [.ref (B + 95), J v1, J v2] M (fun r M1 => M = M1 ∧ Q r) := by
  refine ct_i (by decide) (Nat.le_of_ble_eq_true rfl) ?_
  intro p e s m args below meth c hC
  have hC : Cx p s m args meth c D K cX12_hourOf 6 RX12 (some .int) := hC
  unfold f_X12_hourOf at hf
  refine (show G p l e (rmF 5 114) s m args below meth c B D K 6 0 0 (ZI below args s B D K (fun r M1 => M = M1 ∧ Q r)) M 0 [(0, .ref (B + 95)), (1, J v1), (2, J v2)] [] from ?_)
  refine g_iload_n hC 1 dX12_hourOf_0 rfl rfl ?_
  refine g_istore_n hC [(3, J v1), (0, .ref (B + 95)), (1, J v1), (2, J v2)] dX12_hourOf_1 rfl (by decide) rfl ?_
  refine g_iconst hC dX12_hourOf_2 ?_
  refine g_istore hC [(4, J 0), (3, J v1), (0, .ref (B + 95)), (1, J v1), (2, J v2)] dX12_hourOf_3 (by decide) rfl ?_
  refine g_sub [(0, .ref (B + 95)), (2, J v2), (3, J v1), (4, J 0)] [2, 4, 1, 0] rfl ?_
  refine wl2_elim (fun (v3_1 : Int) (v4_2 : Int) => inR v3_1 → inR v4_2 → G p l e (rmF 5 114) s m args below meth c B D K 6 0 0 (ZI below args s B D K (fun r M1 => M = M1 ∧ Q r)) M 5 [(0, .ref (B + 95)), (2, J v2), (3, J v3_1), (4, J v4_2)] []) ?_ 5000 v1 0 hf i_v1 (by unfold inR; omega)
  intro rec5 ih5 v3_1 v4_2 hf h_v3_1 h_v4_2
  unfold X12_hourOf_b5 at hf
  refine g_iload_n hC 2 dX12_hourOf_5 rfl rfl ?_
  refine g_iload_n hC 1 dX12_hourOf_6 rfl rfl ?_
  refine g_icmp_eq hC 49 h_v3_1 i_v2 dX12_hourOf_7 rfl (fun c_12 => ?_) (fun c_12 => ?_)
  · replace hf := hf.1 c_12
    refine g_iload hC 3 dX12_hourOf_49 rfl ?_
    exact g_reti hC h_v4_2 hM ⟨rfl, hf⟩ dX12_hourOf_51
  · replace hf := hf.2 c_12
    refine g_aload_n hC 0 dX12_hourOf_10 rfl rfl ?_
    refine g_iload_n hC 2 dX12_hourOf_11 rfl rfl ?_
    refine g_iconst hC dX12_hourOf_12 ?_
    refine g_callVI hC (sk := []) [J v3_1, J 0] (c_X12_mainOut l B D K v3_1 0 h_v3_1 (by unfold inR; omega) M hM _ hf) yv_X12_mainOut wm_X12_287 okX12.1 sc95 rfl ⟨Nat.le_of_ble_eq_true rfl, Nat.le_of_ble_eq_true rfl, Nat.le_of_ble_eq_true rfl, Nat.le_of_ble_eq_true rfl⟩ rfl (Nat.le_of_ble_eq_true rfl) dX12_hourOf_13 ?_
    rintro r_3 M_4 h_r_3 - ⟨rfl, hf⟩
    refine g_istore hC [(5, J r_3), (0, .ref (B + 95)), (2, J v2), (3, J v3_1), (4, J v4_2)] dX12_hourOf_16 (by decide) rfl ?_
    refine g_iload hC 0 dX12_hourOf_18 rfl ?_
    refine g_iconst hC dX12_hourOf_20 ?_
    refine g_icmp_ne hC 26 h_r_3 (by unfold inR; omega) dX12_hourOf_21 rfl (fun c_11 => ?_) (fun c_11 => ?_)
    · replace hf := hf.1 c_11
      refine g_iload hC 4 dX12_hourOf_26 rfl ?_
      refine g_aload_n hC 1 dX12_hourOf_28 rfl rfl ?_
      refine g_iload hC 0 dX12_hourOf_29 rfl ?_
      refine g_iconst hC dX12_hourOf_31 ?_
      refine g_callVI hC (sk := [J v4_2]) [J r_3, J 2] (c_X12_its l B D K r_3 2 h_r_3 (by unfold inR; omega) M hM _ hf) yv_X12_its wm_X12_252 okX12.1 sc95 rfl ⟨Nat.le_of_ble_eq_true rfl, Nat.le_of_ble_eq_true rfl, Nat.le_of_ble_eq_true rfl, Nat.le_of_ble_eq_true rfl⟩ rfl (Nat.le_of_ble_eq_true rfl) dX12_hourOf_32 ?_
      rintro r_5 M_6 h_r_5 - ⟨rfl, hf⟩
      refine g_iadd hC dX12_hourOf_35 ?_
      obtain ⟨q_7, hf⟩ := hf
      refine g_nm (fun v4_8 e_v4_8 => ?_)
      replace hf := hf v4_8 e_v4_8
      have h_v4_8 : inR v4_8 := by rw [e_v4_8]; exact q_7
      refine g_istore hC [(4, J v4_8), (5, J r_3), (0, .ref (B + 95)), (2, J v2), (3, J v3_1)] dX12_hourOf_36 (by decide) rfl ?_
      refine g_aload_n hC 2 dX12_hourOf_38 rfl rfl ?_
      refine g_iload hC 1 dX12_hourOf_39 rfl ?_
      refine g_iconst hC dX12_hourOf_41 ?_
      refine g_callVI hC (sk := []) [J r_3, J 1] (c_X12_its l B D K r_3 1 h_r_3 (by unfold inR; omega) M hM _ hf) yv_X12_its wm_X12_252 okX12.1 sc95 rfl ⟨Nat.le_of_ble_eq_true rfl, Nat.le_of_ble_eq_true rfl, Nat.le_of_ble_eq_true rfl, Nat.le_of_ble_eq_true rfl⟩ rfl (Nat.le_of_ble_eq_true rfl) dX12_hourOf_42 ?_
      rintro r_9 M_10 h_r_9 - ⟨rfl, hf⟩
      refine g_istore_n hC [(3, J r_9), (4, J v4_8), (5, J r_3), (0, .ref (B + 95)), (2, J v2)] dX12_hourOf_45 rfl (by decide) rfl ?_
      refine g_goto hC 5 dX12_hourOf_46 rfl ?_
      refine g_sub [(0, .ref (B + 95)), (2, J v2), (3, J r_9), (4, J v4_8)] [3, 4, 0, 1] rfl ?_
      exact ih5 r_9 v4_8 hf h_r_9 h_v4_8
    · replace hf := hf.2 c_11
      refine g_iconst hC dX12_hourOf_24 ?_
      exact g_reti hC (by unfold inR; omega) hM ⟨rfl, hf⟩ dX12_hourOf_25
set_option maxHeartbeats 4000000 in
set_option maxRecDepth 100000 in
theorem c_X12_waveMany (l : Launch) (B : Nat) (D : va_G) (K : Nat → ClassId) (v1 : Int) (v2 : Int) (i_v1 : inR v1) (i_v2 : inR v2) (M : Mem) (hM : MR M) (Q : Int → Prop) (hf : f_X12_waveMany v1 v2 M Q) : CtI l yX12_waveMany cX12_waveMany 6 6 139 B D K [.ref (B + 95), J v1, J v2] M (fun r M1 => M = M1 ∧ Q r) := by
  refine ct_i (by decide) (Nat.le_of_ble_eq_true rfl) ?_
  intro p e s m args below meth c hC
  have hC : Cx p s m args meth c D K cX12_waveMany 6 RX12 (some .int) := hC
  unfold f_X12_waveMany at hf
  refine (show G p l e (rmF 6 139) s m args below meth c B D K 6 0 0 (ZI below args s B D K (fun r M1 => M = M1 ∧ Q r)) M 0 [(0, .ref (B + 95)), (1, J v1), (2, J v2)] [] from ?_)
  refine g_iconst hC dX12_waveMany_0 ?_
  refine g_istore_n hC [(3, J 0), (0, .ref (B + 95)), (1, J v1), (2, J v2)] dX12_waveMany_1 rfl (by decide) rfl ?_
  refine g_iconst hC dX12_waveMany_2 ?_
  refine g_istore hC [(4, J 0), (3, J 0), (0, .ref (B + 95)), (1, J v1), (2, J v2)] dX12_waveMany_3 (by decide) rfl ?_
  refine g_sub [(0, .ref (B + 95)), (1, J v1), (2, J v2), (3, J 0), (4, J 0)] [2, 3, 4, 1, 0] rfl ?_
  refine wl2_elim (fun (v3_1 : Int) (v4_2 : Int) => inR v3_1 → inR v4_2 → G p l e (rmF 6 139) s m args below meth c B D K 6 0 0 (ZI below args s B D K (fun r M1 => M = M1 ∧ Q r)) M 5 [(0, .ref (B + 95)), (1, J v1), (2, J v2), (3, J v3_1), (4, J v4_2)] []) ?_ 5000 0 0 hf (by unfold inR; omega) (by unfold inR; omega)
  intro rec5 ih5 v3_1 v4_2 hf h_v3_1 h_v4_2
  unfold X12_waveMany_b5 at hf
  refine g_iload hC 4 dX12_waveMany_5 rfl ?_
  refine g_aload_n hC 0 dX12_waveMany_7 rfl rfl ?_
  refine g_callVI hC (sk := [J v4_2]) [] (c_X12_places l B D K   M hM _ hf) yv_X12_places wm_X12_246 okX12.1 sc95 rfl ⟨Nat.le_of_ble_eq_true rfl, Nat.le_of_ble_eq_true rfl, Nat.le_of_ble_eq_true rfl, Nat.le_of_ble_eq_true rfl⟩ rfl (Nat.le_of_ble_eq_true rfl) dX12_waveMany_8 ?_
  rintro r_3 M_4 h_r_3 - ⟨rfl, hf⟩
  refine g_icmp_ge hC 70 h_v4_2 h_r_3 dX12_waveMany_11 rfl (fun c_21 => ?_) (fun c_21 => ?_)
  · replace hf := hf.1 c_21
    refine g_iload_n hC 3 dX12_waveMany_70 rfl rfl ?_
    exact g_reti hC h_v3_1 hM ⟨rfl, hf⟩ dX12_waveMany_71
  · replace hf := hf.2 c_21
    refine g_aload_n hC 0 dX12_waveMany_14 rfl rfl ?_
    refine g_iload hC 4 dX12_waveMany_15 rfl ?_
    refine g_callVZ hC (sk := []) [J v4_2] (c_X12_isSource l B D K v4_2 h_v4_2 M hM _ hf) yv_X12_isSource wm_X12_262 okX12.1 sc95 rfl ⟨Nat.le_of_ble_eq_true rfl, Nat.le_of_ble_eq_true rfl, Nat.le_of_ble_eq_true rfl, Nat.le_of_ble_eq_true rfl⟩ rfl (Nat.le_of_ble_eq_true rfl) dX12_waveMany_17 ?_
    rintro r_5 M_6 h_r_5 - ⟨rfl, hf⟩
    refine jn_elim (fun (k : Int → Prop) => ∀ (s0_7 : Int), k s0_7 → (inR s0_7) → G p l e (rmF 6 139) s m args below meth c B D K 6 0 0 (ZI below args s B D K (fun r M1 => M = M1 ∧ Q r)) M 34 [(0, .ref (B + 95)), (1, J v1), (2, J v2), (3, J v3_1), (4, J v4_2)] [J s0_7]) hf ?_ ?_
    · intro s0_7 hf h_s0_7
      refine g_istore hC [(5, J s0_7), (0, .ref (B + 95)), (1, J v1), (2, J v2), (3, J v3_1), (4, J v4_2)] dX12_waveMany_34 (by decide) rfl ?_
      refine g_iload_n hC 4 dX12_waveMany_36 rfl rfl ?_
      refine g_iload hC 0 dX12_waveMany_37 rfl ?_
      refine g_iconst hC dX12_waveMany_39 ?_
      refine jn_elim (fun (k : Int → Prop) => ∀ (s1_8 : Int), k s1_8 → ((s1_8 = 0 ∨ s1_8 = 1)) → G p l e (rmF 6 139) s m args below meth c B D K 6 0 0 (ZI below args s B D K (fun r M1 => M = M1 ∧ Q r)) M 59 [(0, .ref (B + 95)), (1, J v1), (2, J v2), (4, J v4_2)] [J s1_8, J v3_1]) hf ?_ ?_
      · intro s1_8 hf h_s1_8
        refine g_callSI hC (sk := [J v3_1]) [J s1_8] (c_X12_flag l B D K s1_8 (zi_ h_s1_8) M hM _ hf) yv_X12_flag wm_X12_255 rfl ⟨Nat.le_of_ble_eq_true rfl, Nat.le_of_ble_eq_true rfl, Nat.le_of_ble_eq_true rfl, Nat.le_of_ble_eq_true rfl⟩ rfl (Nat.le_of_ble_eq_true rfl) dX12_waveMany_59 ?_
        rintro r_9 M_10 h_r_9 - ⟨rfl, hf⟩
        refine g_iadd hC dX12_waveMany_62 ?_
        obtain ⟨q_11, hf⟩ := hf
        refine g_nm (fun v3_12 e_v3_12 => ?_)
        replace hf := hf v3_12 e_v3_12
        have h_v3_12 : inR v3_12 := by rw [e_v3_12]; exact q_11
        refine g_istore_n hC [(3, J v3_12), (0, .ref (B + 95)), (1, J v1), (2, J v2), (4, J v4_2)] dX12_waveMany_63 rfl (by decide) rfl ?_
        obtain ⟨q_14, hf⟩ := hf
        obtain ⟨v4_13, e_v4_13⟩ : ∃ z : Int, z = v4_2 + 1 := ⟨_, rfl⟩
        replace hf := hf v4_13 e_v4_13
        have h_v4_13 : inR v4_13 := by rw [e_v4_13]; exact q_14
        refine g_iincv hC 4 e_v4_13 [(4, J v4_13), (3, J v3_12), (0, .ref (B + 95)), (1, J v1), (2, J v2)] dX12_waveMany_64 rfl (by decide) rfl ?_
        refine g_goto hC 5 dX12_waveMany_67 rfl ?_
        refine g_sub [(0, .ref (B + 95)), (1, J v1), (2, J v2), (3, J v3_12), (4, J v4_13)] [2, 3, 4, 1, 0] rfl ?_
        exact ih5 v3_12 v4_13 hf h_v3_12 h_v4_13
      · intro J59 hJ59 hf
        refine g_icmp_eq hC 58 h_s0_7 (by unfold inR; omega) dX12_waveMany_40 rfl (fun c_17 => ?_) (fun c_17 => ?_)
        · replace hf := hf.1 c_17
          refine g_iconst hC dX12_waveMany_58 ?_
          refine g_sub [(0, .ref (B + 95)), (1, J v1), (2, J v2), (4, J v4_2)] [1, 2, 3, 5] rfl ?_
          exact hJ59 0 hf (Or.inl rfl)
        · replace hf := hf.2 c_17
          refine g_iload_n hC 3 dX12_waveMany_43 rfl rfl ?_
          refine g_iconst hC dX12_waveMany_44 ?_
          refine g_icmp_eq hC 54 i_v2 (by unfold inR; omega) dX12_waveMany_45 rfl (fun c_16 => ?_) (fun c_16 => ?_)
          · replace hf := hf.1 c_16
            refine g_iconst hC dX12_waveMany_54 ?_
            refine g_goto hC 59 dX12_waveMany_55 rfl ?_
            refine g_sub [(0, .ref (B + 95)), (1, J v1), (2, J v2), (4, J v4_2)] [1, 2, 3, 5] rfl ?_
            exact hJ59 1 hf (Or.inr rfl)
          · replace hf := hf.2 c_16
            refine g_iload hC 0 dX12_waveMany_48 rfl ?_
            refine g_iload_n hC 3 dX12_waveMany_50 rfl rfl ?_
            refine g_icmp_ne hC 58 h_s0_7 i_v2 dX12_waveMany_51 rfl (fun c_15 => ?_) (fun c_15 => ?_)
            · replace hf := hf.1 c_15
              refine g_iconst hC dX12_waveMany_58 ?_
              refine g_sub [(0, .ref (B + 95)), (1, J v1), (2, J v2), (4, J v4_2)] [1, 2, 3, 5] rfl ?_
              exact hJ59 0 hf (Or.inl rfl)
            · replace hf := hf.2 c_15
              refine g_iconst hC dX12_waveMany_54 ?_
              refine g_goto hC 59 dX12_waveMany_55 rfl ?_
              refine g_sub [(0, .ref (B + 95)), (1, J v1), (2, J v2), (4, J v4_2)] [1, 2, 3, 5] rfl ?_
              exact hJ59 1 hf (Or.inr rfl)
    · intro J34 hJ34 hf
      refine g_if_eq hC 33 (zi_ h_r_5) dX12_waveMany_20 rfl (fun c_20 => ?_) (fun c_20 => ?_)
      · replace hf := hf.1 c_20
        refine g_iconst hC dX12_waveMany_33 ?_
        refine g_sub [(0, .ref (B + 95)), (1, J v1), (2, J v2), (3, J v3_1), (4, J v4_2)] [0, 1, 2, 3, 4] rfl ?_
        exact hJ34 (-1) hf (by unfold inR; omega)
      · replace hf := hf.2 c_20
        refine g_aload_n hC 0 dX12_waveMany_23 rfl rfl ?_
        refine g_iload hC 4 dX12_waveMany_24 rfl ?_
        refine g_iload_n hC 1 dX12_waveMany_26 rfl rfl ?_
        refine g_callVI hC (sk := []) [J v4_2, J v1] (c_X12_hourOf l B D K v4_2 v1 h_v4_2 i_v1 M hM _ hf) yv_X12_hourOf wm_X12_403 okX12.1 sc95 rfl ⟨Nat.le_of_ble_eq_true rfl, Nat.le_of_ble_eq_true rfl, Nat.le_of_ble_eq_true rfl, Nat.le_of_ble_eq_true rfl⟩ rfl (Nat.le_of_ble_eq_true rfl) dX12_waveMany_27 ?_
        rintro r_18 M_19 h_r_18 - ⟨rfl, hf⟩
        refine g_goto hC 34 dX12_waveMany_30 rfl ?_
        refine g_sub [(0, .ref (B + 95)), (1, J v1), (2, J v2), (3, J v3_1), (4, J v4_2)] [0, 1, 2, 3, 4] rfl ?_
        exact hJ34 r_18 hf h_r_18
set_option maxHeartbeats 4000000 in
set_option maxRecDepth 100000 in
theorem c_X12_wave (l : Launch) (B : Nat) (D : va_G) (K : Nat → ClassId) (v1 : Int) (v2 : Int) (i_v1 : inR v1) (i_v2 : inR v2) (M : Mem) (hM : MR M) (Q : Int → Mem → Prop) (hf : f_X12_wave v1 v2 M Q) : CtI l yX12_wave cX12_wave 9 7 164 B D K [.ref (B + 95), J v1, J v2] M Q := by
  refine ct_i (by decide) (Nat.le_of_ble_eq_true rfl) ?_
  intro p e s m args below meth c hC
  have hC : Cx p s m args meth c D K cX12_wave 9 RX12 (some .int) := hC
  unfold f_X12_wave at hf
  refine (show G p l e (rmF 7 164) s m args below meth c B D K 9 0 0 (ZI below args s B D K Q) M 0 [(0, .ref (B + 95)), (1, J v1), (2, J v2)] [] from ?_)
  refine g_aload_n hC 0 dX12_wave_0 rfl rfl ?_
  refine g_iload_n hC 1 dX12_wave_1 rfl rfl ?_
  refine g_callVZ hC (sk := []) [J v1] (c_X12_isPlace l B D K v1 i_v1 M hM _ hf) yv_X12_isPlace wm_X12_338 okX12.1 sc95 rfl ⟨Nat.le_of_ble_eq_true rfl, Nat.le_of_ble_eq_true rfl, Nat.le_of_ble_eq_true rfl, Nat.le_of_ble_eq_true rfl⟩ rfl (Nat.le_of_ble_eq_true rfl) dX12_wave_2 ?_
  rintro r_1 M_2 h_r_1 - ⟨rfl, hf⟩
  refine g_if_eq hC 20 (zi_ h_r_1) dX12_wave_5 rfl (fun c_43 => ?_) (fun c_43 => ?_)
  · replace hf := hf.1 c_43
    refine g_iconst hC dX12_wave_20 ?_
    exact g_reti hC (by unfold inR; omega) hM hf dX12_wave_21
  · replace hf := hf.2 c_43
    refine g_iload_n hC 2 dX12_wave_8 rfl rfl ?_
    refine g_i2l hC i_v2 dX12_wave_9 ?_
    refine g_lconst (n := 0) hC dX12_wave_10 (by decide) ?_
    refine g_ldc2 (n := 3) hC wc_X12_349 (by decide) dX12_wave_11 ?_
    refine g_callSZ hC (sk := []) [JL v2, JL 0, JL 3] (c_X12_isIn l B D K v2 0 3 (inL_of i_v2) (by unfold inL; omega) (by unfold inL; omega) M hM _ hf) yv_X12_isIn wm_X12_127 rfl ⟨Nat.le_of_ble_eq_true rfl, Nat.le_of_ble_eq_true rfl, Nat.le_of_ble_eq_true rfl, Nat.le_of_ble_eq_true rfl⟩ rfl (Nat.le_of_ble_eq_true rfl) dX12_wave_14 ?_
    rintro r_3 M_4 h_r_3 - ⟨rfl, hf⟩
    refine g_if_ne hC 22 (zi_ h_r_3) dX12_wave_17 rfl (fun c_42 => ?_) (fun c_42 => ?_)
    · replace hf := hf.1 c_42
      refine g_aload_n hC 0 dX12_wave_22 rfl rfl ?_
      refine g_callVV hC (sk := []) [] (c_X12_lays l B D K   M hM _ hf) yv_X12_lays wm_X12_320 okX12.1 sc95 rfl ⟨Nat.le_of_ble_eq_true rfl, Nat.le_of_ble_eq_true rfl, Nat.le_of_ble_eq_true rfl, Nat.le_of_ble_eq_true rfl⟩ rfl (Nat.le_of_ble_eq_true rfl) dX12_wave_23 ?_
      intro M_5 h_M_5 hf
      refine g_iload_n hC 2 dX12_wave_26 rfl rfl ?_
      refine g_iconst hC dX12_wave_27 ?_
      refine g_icmp_ne hC 38 i_v2 (by unfold inR; omega) dX12_wave_28 rfl (fun c_41 => ?_) (fun c_41 => ?_)
      · replace hf := hf.1 c_41
        refine g_iconst hC dX12_wave_38 ?_
        refine g_istore_n hC [(3, J (-1)), (0, .ref (B + 95)), (1, J v1), (2, J v2)] dX12_wave_39 rfl (by decide) rfl ?_
        refine g_iconst hC dX12_wave_40 ?_
        refine g_istore hC [(4, J (-1)), (3, J (-1)), (0, .ref (B + 95)), (1, J v1), (2, J v2)] dX12_wave_41 (by decide) rfl ?_
        refine g_iconst hC dX12_wave_43 ?_
        refine g_istore hC [(5, J (-1)), (4, J (-1)), (3, J (-1)), (0, .ref (B + 95)), (1, J v1), (2, J v2)] dX12_wave_44 (by decide) rfl ?_
        refine g_iconst hC dX12_wave_46 ?_
        refine g_istore hC [(6, J 0), (5, J (-1)), (4, J (-1)), (3, J (-1)), (0, .ref (B + 95)), (1, J v1), (2, J v2)] dX12_wave_47 (by decide) rfl ?_
        refine jn_elim (fun (k : Int → Int → Int → Prop) => ∀ (v3_6 : Int) (v4_7 : Int) (v5_8 : Int), k v3_6 v4_7 v5_8 → (inR v3_6) → (inR v4_7) → (inR v5_8) → G p l e (rmF 7 164) s m args below meth c B D K 9 0 0 (ZI below args s B D K Q) M_5 146 [(2, J v2), (3, J v3_6), (4, J v4_7), (5, J v5_8)] []) hf ?_ ?_
        · intro v3_6 v4_7 v5_8 hf h_v3_6 h_v4_7 h_v5_8
          refine g_iload_n hC 0 dX12_wave_146 rfl rfl ?_
          refine g_if_ne hC 154 i_v2 dX12_wave_147 rfl (fun c_10 => ?_) (fun c_10 => ?_)
          · replace hf := hf.1 c_10
            refine g_iload_n hC 0 dX12_wave_154 rfl rfl ?_
            refine g_iconst hC dX12_wave_155 ?_
            refine g_icmp_ne hC 164 i_v2 (by unfold inR; omega) dX12_wave_156 rfl (fun c_9 => ?_) (fun c_9 => ?_)
            · replace hf := hf.1 c_9
              refine g_iload hC 3 dX12_wave_164 rfl ?_
              exact g_reti hC h_v5_8 h_M_5 hf dX12_wave_166
            · replace hf := hf.2 c_9
              refine g_iload hC 2 dX12_wave_159 rfl ?_
              refine g_goto hC 166 dX12_wave_161 rfl ?_
              exact g_reti hC h_v4_7 h_M_5 hf dX12_wave_166
          · replace hf := hf.2 c_10
            refine g_iload_n hC 1 dX12_wave_150 rfl rfl ?_
            refine g_goto hC 166 dX12_wave_151 rfl ?_
            exact g_reti hC h_v3_6 h_M_5 hf dX12_wave_166
        · intro J146 hJ146 hf
          refine g_sub [(0, .ref (B + 95)), (1, J v1), (2, J v2), (3, J (-1)), (4, J (-1)), (5, J (-1)), (6, J 0)] [4, 5, 6, 3, 2, 1, 0] rfl ?_
          refine wl4_elim (fun (v3_11 : Int) (v4_12 : Int) (v5_13 : Int) (v6_14 : Int) => inR v3_11 → inR v4_12 → inR v5_13 → inR v6_14 → G p l e (rmF 7 164) s m args below meth c B D K 9 0 0 (ZI below args s B D K Q) M_5 49 [(0, .ref (B + 95)), (1, J v1), (2, J v2), (3, J v3_11), (4, J v4_12), (5, J v5_13), (6, J v6_14)] []) ?_ 5000 (-1) (-1) (-1) 0 hf (by unfold inR; omega) (by unfold inR; omega) (by unfold inR; omega) (by unfold inR; omega)
          intro rec49 ih49 v3_11 v4_12 v5_13 v6_14 hf h_v3_11 h_v4_12 h_v5_13 h_v6_14
          unfold X12_wave_b49 at hf
          refine g_iload hC 6 dX12_wave_49 rfl ?_
          refine g_aload_n hC 0 dX12_wave_51 rfl rfl ?_
          refine g_callVI hC (sk := [J v6_14]) [] (c_X12_places l B D K   M_5 h_M_5 _ hf) yv_X12_places wm_X12_246 okX12.1 sc95 rfl ⟨Nat.le_of_ble_eq_true rfl, Nat.le_of_ble_eq_true rfl, Nat.le_of_ble_eq_true rfl, Nat.le_of_ble_eq_true rfl⟩ rfl (Nat.le_of_ble_eq_true rfl) dX12_wave_52 ?_
          rintro r_15 M_16 h_r_15 - ⟨rfl, hf⟩
          refine g_icmp_ge hC 146 h_v6_14 h_r_15 dX12_wave_55 rfl (fun c_38 => ?_) (fun c_38 => ?_)
          · replace hf := hf.1 c_38
            refine g_sub [(2, J v2), (3, J v3_11), (4, J v4_12), (5, J v5_13)] [2, 3, 4, 5] rfl ?_
            exact hJ146 v3_11 v4_12 v5_13 hf h_v3_11 h_v4_12 h_v5_13
          · replace hf := hf.2 c_38
            refine g_aload_n hC 0 dX12_wave_58 rfl rfl ?_
            refine g_iload hC 6 dX12_wave_59 rfl ?_
            refine g_callVZ hC (sk := []) [J v6_14] (c_X12_isSource l B D K v6_14 h_v6_14 M_5 h_M_5 _ hf) yv_X12_isSource wm_X12_262 okX12.1 sc95 rfl ⟨Nat.le_of_ble_eq_true rfl, Nat.le_of_ble_eq_true rfl, Nat.le_of_ble_eq_true rfl, Nat.le_of_ble_eq_true rfl⟩ rfl (Nat.le_of_ble_eq_true rfl) dX12_wave_61 ?_
            rintro r_17 M_18 h_r_17 - ⟨rfl, hf⟩
            refine jn_elim (fun (k : Int → Prop) => ∀ (s0_19 : Int), k s0_19 → (inR s0_19) → G p l e (rmF 7 164) s m args below meth c B D K 9 0 0 (ZI below args s B D K Q) M_5 78 [(0, .ref (B + 95)), (1, J v1), (2, J v2), (3, J v3_11), (4, J v4_12), (5, J v5_13), (6, J v6_14)] [J s0_19]) hf ?_ ?_
            · intro s0_19 hf h_s0_19
              refine g_istore hC [(7, J s0_19), (0, .ref (B + 95)), (1, J v1), (2, J v2), (3, J v3_11), (4, J v4_12), (5, J v5_13), (6, J v6_14)] dX12_wave_78 (by decide) rfl ?_
              refine g_iload hC 0 dX12_wave_80 rfl ?_
              refine g_iconst hC dX12_wave_82 ?_
              refine g_icmp_ne hC 89 h_s0_19 (by unfold inR; omega) dX12_wave_83 rfl (fun c_34 => ?_) (fun c_34 => ?_)
              · replace hf := hf.1 c_34
                refine g_aload_n hC 1 dX12_wave_89 rfl rfl ?_
                refine g_iload_n hC 2 dX12_wave_90 rfl rfl ?_
                refine g_iload hC 0 dX12_wave_91 rfl ?_
                refine g_callVI hC (sk := []) [J v1, J s0_19] (c_X12_waveMany l B D K v1 s0_19 i_v1 h_s0_19 M_5 h_M_5 _ hf) yv_X12_waveMany wm_X12_406 okX12.1 sc95 rfl ⟨Nat.le_of_ble_eq_true rfl, Nat.le_of_ble_eq_true rfl, Nat.le_of_ble_eq_true rfl, Nat.le_of_ble_eq_true rfl⟩ rfl (Nat.le_of_ble_eq_true rfl) dX12_wave_93 ?_
                rintro r_20 M_21 h_r_20 - ⟨rfl, hf⟩
                refine g_istore hC [(8, J r_20), (7, J s0_19), (0, .ref (B + 95)), (1, J v1), (2, J v2), (3, J v3_11), (4, J v4_12), (5, J v5_13), (6, J v6_14)] dX12_wave_96 (by decide) rfl ?_
                refine g_iload hC 0 dX12_wave_98 rfl ?_
                refine g_iload_n hC 5 dX12_wave_100 rfl rfl ?_
                refine jn_elim (fun (k : Int → Int → Prop) => ∀ (v3_22 : Int) (v4_23 : Int), k v3_22 v4_23 → (inR v3_22) → (inR v4_23) → G p l e (rmF 7 164) s m args below meth c B D K 9 0 0 (ZI below args s B D K Q) M_5 124 [(0, .ref (B + 95)), (1, J v1), (2, J v2), (3, J v3_22), (4, J v4_23), (5, J v5_13), (6, J v6_14), (7, J s0_19)] []) hf ?_ ?_
                · intro v3_22 v4_23 hf h_v3_22 h_v4_23
                  refine g_iload hC 7 dX12_wave_124 rfl ?_
                  refine g_iload hC 5 dX12_wave_126 rfl ?_
                  refine g_icmp_le hC 136 h_s0_19 h_v5_13 dX12_wave_128 rfl (fun c_28 => ?_) (fun c_28 => ?_)
                  · replace hf := hf.1 c_28
                    refine g_iload hC 5 dX12_wave_136 rfl ?_
                    refine g_istore hC [(5, J v5_13), (0, .ref (B + 95)), (1, J v1), (2, J v2), (3, J v3_22), (4, J v4_23), (6, J v6_14), (7, J s0_19)] dX12_wave_138 (by decide) rfl ?_
                    obtain ⟨q_25, hf⟩ := hf
                    obtain ⟨v6_24, e_v6_24⟩ : ∃ z : Int, z = v6_14 + 1 := ⟨_, rfl⟩
                    replace hf := hf v6_24 e_v6_24
                    have h_v6_24 : inR v6_24 := by rw [e_v6_24]; exact q_25
                    refine g_iincv hC 6 e_v6_24 [(6, J v6_24), (5, J v5_13), (0, .ref (B + 95)), (1, J v1), (2, J v2), (3, J v3_22), (4, J v4_23), (7, J s0_19)] dX12_wave_140 rfl (by decide) rfl ?_
                    refine g_goto hC 49 dX12_wave_143 rfl ?_
                    refine g_sub [(0, .ref (B + 95)), (1, J v1), (2, J v2), (3, J v3_22), (4, J v4_23), (5, J v5_13), (6, J v6_24)] [2, 3, 4, 5, 6, 1, 0] rfl ?_
                    exact ih49 v3_22 v4_23 v5_13 v6_24 hf h_v3_22 h_v4_23 h_v5_13 h_v6_24
                  · replace hf := hf.2 c_28
                    refine g_iload hC 7 dX12_wave_131 rfl ?_
                    refine g_goto hC 138 dX12_wave_133 rfl ?_
                    refine g_istore hC [(5, J s0_19), (0, .ref (B + 95)), (1, J v1), (2, J v2), (3, J v3_22), (4, J v4_23), (6, J v6_14), (7, J s0_19)] dX12_wave_138 (by decide) rfl ?_
                    obtain ⟨q_27, hf⟩ := hf
                    obtain ⟨v6_26, e_v6_26⟩ : ∃ z : Int, z = v6_14 + 1 := ⟨_, rfl⟩
                    replace hf := hf v6_26 e_v6_26
                    have h_v6_26 : inR v6_26 := by rw [e_v6_26]; exact q_27
                    refine g_iincv hC 6 e_v6_26 [(6, J v6_26), (5, J s0_19), (0, .ref (B + 95)), (1, J v1), (2, J v2), (3, J v3_22), (4, J v4_23), (7, J s0_19)] dX12_wave_140 rfl (by decide) rfl ?_
                    refine g_goto hC 49 dX12_wave_143 rfl ?_
                    refine g_sub [(0, .ref (B + 95)), (1, J v1), (2, J v2), (3, J v3_22), (4, J v4_23), (5, J s0_19), (6, J v6_26)] [2, 3, 4, 5, 6, 1, 0] rfl ?_
                    exact ih49 v3_22 v4_23 s0_19 v6_26 hf h_v3_22 h_v4_23 h_s0_19 h_v6_26
                · intro J124 hJ124 hf
                  refine g_icmp_gt hC 117 h_r_20 h_v3_11 dX12_wave_101 rfl (fun c_31 => ?_) (fun c_31 => ?_)
                  · replace hf := hf.1 c_31
                    refine g_iload hC 0 dX12_wave_117 rfl ?_
                    refine g_istore_n hC [(3, J r_20), (8, J r_20), (7, J s0_19), (0, .ref (B + 95)), (1, J v1), (2, J v2), (4, J v4_12), (5, J v5_13), (6, J v6_14)] dX12_wave_119 rfl (by decide) rfl ?_
                    refine g_iload hC 2 dX12_wave_120 rfl ?_
                    refine g_istore hC [(4, J s0_19), (3, J r_20), (8, J r_20), (7, J s0_19), (0, .ref (B + 95)), (1, J v1), (2, J v2), (5, J v5_13), (6, J v6_14)] dX12_wave_122 (by decide) rfl ?_
                    refine g_sub [(0, .ref (B + 95)), (1, J v1), (2, J v2), (3, J r_20), (4, J s0_19), (5, J v5_13), (6, J v6_14), (7, J s0_19)] [4, 5, 6, 1, 0, 7, 8, 3] rfl ?_
                    exact hJ124 r_20 s0_19 hf h_r_20 h_s0_19
                  · replace hf := hf.2 c_31
                    refine g_iload hC 0 dX12_wave_104 rfl ?_
                    refine g_iload_n hC 5 dX12_wave_106 rfl rfl ?_
                    refine g_icmp_ne hC 124 h_r_20 h_v3_11 dX12_wave_107 rfl (fun c_30 => ?_) (fun c_30 => ?_)
                    · replace hf := hf.1 c_30
                      refine g_sub [(0, .ref (B + 95)), (1, J v1), (2, J v2), (3, J v3_11), (4, J v4_12), (5, J v5_13), (6, J v6_14), (7, J s0_19)] [2, 3, 4, 5, 6, 7, 8, 1] rfl ?_
                      exact hJ124 v3_11 v4_12 hf h_v3_11 h_v4_12
                    · replace hf := hf.2 c_30
                      refine g_iload hC 1 dX12_wave_110 rfl ?_
                      refine g_iload hC 6 dX12_wave_112 rfl ?_
                      refine g_icmp_ge hC 124 h_s0_19 h_v4_12 dX12_wave_114 rfl (fun c_29 => ?_) (fun c_29 => ?_)
                      · replace hf := hf.1 c_29
                        refine g_sub [(0, .ref (B + 95)), (1, J v1), (2, J v2), (3, J v3_11), (4, J v4_12), (5, J v5_13), (6, J v6_14), (7, J s0_19)] [2, 3, 4, 5, 6, 7, 8, 1] rfl ?_
                        exact hJ124 v3_11 v4_12 hf h_v3_11 h_v4_12
                      · replace hf := hf.2 c_29
                        refine g_iload hC 0 dX12_wave_117 rfl ?_
                        refine g_istore_n hC [(3, J r_20), (8, J r_20), (7, J s0_19), (0, .ref (B + 95)), (1, J v1), (2, J v2), (4, J v4_12), (5, J v5_13), (6, J v6_14)] dX12_wave_119 rfl (by decide) rfl ?_
                        refine g_iload hC 2 dX12_wave_120 rfl ?_
                        refine g_istore hC [(4, J s0_19), (3, J r_20), (8, J r_20), (7, J s0_19), (0, .ref (B + 95)), (1, J v1), (2, J v2), (5, J v5_13), (6, J v6_14)] dX12_wave_122 (by decide) rfl ?_
                        refine g_sub [(0, .ref (B + 95)), (1, J v1), (2, J v2), (3, J r_20), (4, J s0_19), (5, J v5_13), (6, J v6_14), (7, J s0_19)] [4, 5, 6, 1, 0, 7, 8, 3] rfl ?_
                        exact hJ124 r_20 s0_19 hf h_r_20 h_s0_19
              · replace hf := hf.2 c_34
                refine g_goto hC 140 dX12_wave_86 rfl ?_
                obtain ⟨q_33, hf⟩ := hf
                obtain ⟨v6_32, e_v6_32⟩ : ∃ z : Int, z = v6_14 + 1 := ⟨_, rfl⟩
                replace hf := hf v6_32 e_v6_32
                have h_v6_32 : inR v6_32 := by rw [e_v6_32]; exact q_33
                refine g_iincv hC 7 e_v6_32 [(6, J v6_32), (7, J s0_19), (0, .ref (B + 95)), (1, J v1), (2, J v2), (3, J v3_11), (4, J v4_12), (5, J v5_13)] dX12_wave_140 rfl (by decide) rfl ?_
                refine g_goto hC 49 dX12_wave_143 rfl ?_
                refine g_sub [(0, .ref (B + 95)), (1, J v1), (2, J v2), (3, J v3_11), (4, J v4_12), (5, J v5_13), (6, J v6_32)] [2, 3, 4, 5, 6, 7, 0] rfl ?_
                exact ih49 v3_11 v4_12 v5_13 v6_32 hf h_v3_11 h_v4_12 h_v5_13 h_v6_32
            · intro J78 hJ78 hf
              refine g_if_eq hC 77 (zi_ h_r_17) dX12_wave_64 rfl (fun c_37 => ?_) (fun c_37 => ?_)
              · replace hf := hf.1 c_37
                refine g_iconst hC dX12_wave_77 ?_
                refine g_sub [(0, .ref (B + 95)), (1, J v1), (2, J v2), (3, J v3_11), (4, J v4_12), (5, J v5_13), (6, J v6_14)] [0, 1, 2, 3, 4, 5, 6] rfl ?_
                exact hJ78 (-1) hf (by unfold inR; omega)
              · replace hf := hf.2 c_37
                refine g_aload_n hC 0 dX12_wave_67 rfl rfl ?_
                refine g_iload hC 6 dX12_wave_68 rfl ?_
                refine g_iload_n hC 1 dX12_wave_70 rfl rfl ?_
                refine g_callVI hC (sk := []) [J v6_14, J v1] (c_X12_hourOf l B D K v6_14 v1 h_v6_14 i_v1 M_5 h_M_5 _ hf) yv_X12_hourOf wm_X12_403 okX12.1 sc95 rfl ⟨Nat.le_of_ble_eq_true rfl, Nat.le_of_ble_eq_true rfl, Nat.le_of_ble_eq_true rfl, Nat.le_of_ble_eq_true rfl⟩ rfl (Nat.le_of_ble_eq_true rfl) dX12_wave_71 ?_
                rintro r_35 M_36 h_r_35 - ⟨rfl, hf⟩
                refine g_goto hC 78 dX12_wave_74 rfl ?_
                refine g_sub [(0, .ref (B + 95)), (1, J v1), (2, J v2), (3, J v3_11), (4, J v4_12), (5, J v5_13), (6, J v6_14)] [0, 1, 2, 3, 4, 5, 6] rfl ?_
                exact hJ78 r_35 hf h_r_35
      · replace hf := hf.2 c_41
        refine g_aload_n hC 0 dX12_wave_31 rfl rfl ?_
        refine g_iload_n hC 1 dX12_wave_32 rfl rfl ?_
        refine g_iconst hC dX12_wave_33 ?_
        refine g_callVI hC (sk := []) [J v1, J (-1)] (c_X12_waveMany l B D K v1 (-1) i_v1 (by unfold inR; omega) M_5 h_M_5 _ hf) yv_X12_waveMany wm_X12_406 okX12.1 sc95 rfl ⟨Nat.le_of_ble_eq_true rfl, Nat.le_of_ble_eq_true rfl, Nat.le_of_ble_eq_true rfl, Nat.le_of_ble_eq_true rfl⟩ rfl (Nat.le_of_ble_eq_true rfl) dX12_wave_34 ?_
        rintro r_39 M_40 h_r_39 - ⟨rfl, hf⟩
        exact g_reti hC h_r_39 h_M_5 hf dX12_wave_37
    · replace hf := hf.2 c_42
      refine g_iconst hC dX12_wave_20 ?_
      exact g_reti hC (by unfold inR; omega) hM hf dX12_wave_21
set_option maxHeartbeats 4000000 in
set_option maxRecDepth 100000 in
theorem c_X12_see (l : Launch) (B : Nat) (D : va_G) (K : Nat → ClassId)   (M : Mem) (hM : MR M) (Q : Int → Mem → Prop) (hf : f_X12_see  M Q) : CtI l yX12_see cX12_see 4 2 46 B D K [.ref (B + 95)] M Q := by
  refine ct_i (by decide) (Nat.le_of_ble_eq_true rfl) ?_
  intro p e s m args below meth c hC
  have hC : Cx p s m args meth c D K cX12_see 4 RX12 (some .int) := hC
  unfold f_X12_see at hf
  refine (show G p l e (rmF 2 46) s m args below meth c B D K 4 0 0 (ZI below args s B D K Q) M 0 [(0, .ref (B + 95))] [] from ?_)
  refine g_aload_n hC 0 dX12_see_0 rfl rfl ?_
  refine g_geti hC okX12 sc95 1 (by decide) rfl wf_X12_114 dX12_see_1 ?_
  refine g_nm (fun v1_1 e_v1_1 => ?_)
  replace hf := hf v1_1 e_v1_1
  have h_v1_1 : inR v1_1 := by rw [e_v1_1]; exact (hM _ _)
  refine g_istore_n hC [(1, J v1_1), (0, .ref (B + 95))] dX12_see_4 rfl (by decide) rfl ?_
  refine g_aload_n hC 1 dX12_see_5 rfl rfl ?_
  refine g_iconst hC dX12_see_6 ?_
  refine g_puti hC okX12 tnX12 sc95 1 (by decide) rfl rfl (by decide) wf_X12_114 dX12_see_7 ?_
  refine g_nmM (fun M_2 e_M_2 => ?_)
  replace hf := hf M_2 e_M_2
  have h_M_2 : MR M_2 := by rw [e_M_2]; exact MR_st hM (by unfold inR; omega)
  refine g_iload_n hC 0 dX12_see_10 rfl rfl ?_
  refine jn_elim (fun (k : Int → Prop) => ∀ (s0_3 : Int), k s0_3 → ((s0_3 = 0 ∨ s0_3 = 1)) → G p l e (rmF 2 46) s m args below meth c B D K 4 0 0 (ZI below args s B D K Q) M_2 33 [(0, .ref (B + 95)), (1, J v1_1)] [J s0_3]) hf ?_ ?_
  · intro s0_3 hf h_s0_3
    refine g_istore_n hC [(2, J s0_3), (0, .ref (B + 95)), (1, J v1_1)] dX12_see_33 rfl (by decide) rfl ?_
    refine g_iconst hC dX12_see_34 ?_
    refine g_istore_n hC [(3, J 0), (2, J s0_3), (0, .ref (B + 95)), (1, J v1_1)] dX12_see_35 rfl (by decide) rfl ?_
    refine jn_elim (fun (k : Int → Prop) => ∀ (v2_4 : Int), k v2_4 → (v2_4 = 0 ∨ v2_4 = 1) → G p l e (rmF 2 46) s m args below meth c B D K 4 0 0 (ZI below args s B D K Q) M_2 82 [(0, .ref (B + 95)), (1, J v1_1), (2, J v2_4)] []) hf ?_ ?_
    · intro v2_4 hf h_v2_4
      refine g_iload_n hC 2 dX12_see_82 rfl rfl ?_
      refine g_if_ne hC 92 (zi_ h_v2_4) dX12_see_83 rfl (fun c_16 => ?_) (fun c_16 => ?_)
      · replace hf := hf.1 c_16
        refine g_iconst hC dX12_see_92 ?_
        refine g_istore_n hC [(3, J 0), (0, .ref (B + 95)), (1, J v1_1), (2, J v2_4)] dX12_see_93 rfl (by decide) rfl ?_
        refine g_sub [(0, .ref (B + 95)), (1, J v1_1), (3, J 0)] [1, 2, 0] rfl ?_
        refine wl2_elim (fun (v3_5 : Int) (M_6 : Mem) => inR v3_5 → MR M_6 → G p l e (rmF 2 46) s m args below meth c B D K 4 0 0 (ZI below args s B D K Q) M_6 94 [(0, .ref (B + 95)), (1, J v1_1), (3, J v3_5)] []) ?_ 5000 0 M_2 hf (by unfold inR; omega) h_M_2
        intro rec94 ih94 v3_5 M_6 hf h_v3_5 h_M_6
        unfold X12_see_b94 at hf
        refine g_iload_n hC 2 dX12_see_94 rfl rfl ?_
        refine g_iload_n hC 1 dX12_see_95 rfl rfl ?_
        refine g_icmp_ge hC 117 h_v3_5 h_v1_1 dX12_see_96 rfl (fun c_13 => ?_) (fun c_13 => ?_)
        · replace hf := hf.1 c_13
          refine g_aload_n hC 0 dX12_see_117 rfl rfl ?_
          refine g_iload_n hC 1 dX12_see_118 rfl rfl ?_
          refine g_iconst hC dX12_see_119 ?_
          refine g_idiv hC h_v1_1 (by unfold inR; omega) (by decide) dX12_see_120 ?_
          refine g_puti hC okX12 tnX12 sc95 38 (by decide) rfl rfl (by decide) wf_X12_240 dX12_see_121 ?_
          refine g_nmM (fun M_7 e_M_7 => ?_)
          replace hf := hf M_7 e_M_7
          have h_M_7 : MR M_7 := by rw [e_M_7]; exact MR_st h_M_6 (tdiv_in h_v1_1 (by decide))
          refine g_aload_n hC 0 dX12_see_124 rfl rfl ?_
          refine g_geti hC okX12 sc95 38 (by decide) rfl wf_X12_240 dX12_see_125 ?_
          exact g_reti hC (h_M_7 _ _) h_M_7 hf dX12_see_128
        · replace hf := hf.2 c_13
          refine g_aload_n hC 0 dX12_see_99 rfl rfl ?_
          refine g_getr hC okX12 sc95 39 (by decide) rfl wf_X12_98 dX12_see_100 ?_
          refine g_iload_n hC 2 dX12_see_103 rfl rfl ?_
          refine g_aload_n hC 0 dX12_see_104 rfl rfl ?_
          refine g_getr hC okX12 sc95 0 (by decide) rfl wf_X12_7 dX12_see_105 ?_
          refine g_iload_n hC 2 dX12_see_108 rfl rfl ?_
          obtain ⟨q_8, hf⟩ := hf
          refine g_ialdk (v3_5.toNat) hC sc96 q_8.1 q_8.2 rfl dX12_see_109 ?_
          obtain ⟨q_9, hf⟩ := hf
          refine g_iastk (v3_5.toNat) hC sc123 q_9.1 q_9.2 rfl dX12_see_110 ?_
          refine g_nmM (fun M_10 e_M_10 => ?_)
          replace hf := hf M_10 e_M_10
          have h_M_10 : MR M_10 := by rw [e_M_10]; exact MR_st h_M_6 (h_M_6 _ _)
          obtain ⟨q_12, hf⟩ := hf
          obtain ⟨v3_11, e_v3_11⟩ : ∃ z : Int, z = v3_5 + 1 := ⟨_, rfl⟩
          replace hf := hf v3_11 e_v3_11
          have h_v3_11 : inR v3_11 := by rw [e_v3_11]; exact q_12
          refine g_iincv hC 2 e_v3_11 [(3, J v3_11), (0, .ref (B + 95)), (1, J v1_1)] dX12_see_111 rfl (by decide) rfl ?_
          refine g_goto hC 94 dX12_see_114 rfl ?_
          refine g_sub [(0, .ref (B + 95)), (1, J v1_1), (3, J v3_11)] [1, 2, 0] rfl ?_
          exact ih94 v3_11 M_10 hf h_v3_11 h_M_10
      · replace hf := hf.2 c_16
        refine g_aload_n hC 0 dX12_see_86 rfl rfl ?_
        refine g_iconst hC dX12_see_87 ?_
        refine g_callVI hC (sk := []) [J 1] (c_X12_refuses l B D K 1 (by unfold inR; omega) M_2 h_M_2 _ hf) yv_X12_refuses wm_X12_117 okX12.1 sc95 rfl ⟨Nat.le_of_ble_eq_true rfl, Nat.le_of_ble_eq_true rfl, Nat.le_of_ble_eq_true rfl, Nat.le_of_ble_eq_true rfl⟩ rfl (Nat.le_of_ble_eq_true rfl) dX12_see_88 ?_
        intro r_14 M_15 h_r_14 h_M_15 hf
        exact g_reti hC h_r_14 h_M_15 hf dX12_see_91
    · intro J82 hJ82 hf
      refine g_sub [(0, .ref (B + 95)), (1, J v1_1), (2, J s0_3), (3, J 0)] [2, 3, 1, 0] rfl ?_
      refine wl2_elim (fun (v2_17 : Int) (v3_18 : Int) => (v2_17 = 0 ∨ v2_17 = 1) → inR v3_18 → G p l e (rmF 2 46) s m args below meth c B D K 4 0 0 (ZI below args s B D K Q) M_2 36 [(0, .ref (B + 95)), (1, J v1_1), (2, J v2_17), (3, J v3_18)] []) ?_ 5000 s0_3 0 hf h_s0_3 (by unfold inR; omega)
      intro rec36 ih36 v2_17 v3_18 hf h_v2_17 h_v3_18
      unfold X12_see_b36 at hf
      refine g_iload_n hC 3 dX12_see_36 rfl rfl ?_
      refine g_iload_n hC 1 dX12_see_37 rfl rfl ?_
      refine g_icmp_ge hC 82 h_v3_18 h_v1_1 dX12_see_38 rfl (fun c_32 => ?_) (fun c_32 => ?_)
      · replace hf := hf.1 c_32
        refine g_sub [(0, .ref (B + 95)), (1, J v1_1), (2, J v2_17)] [0, 1, 2] rfl ?_
        exact hJ82 v2_17 hf h_v2_17
      · replace hf := hf.2 c_32
        refine g_iload_n hC 2 dX12_see_41 rfl rfl ?_
        refine g_if_eq hC 82 (zi_ h_v2_17) dX12_see_42 rfl (fun c_31 => ?_) (fun c_31 => ?_)
        · replace hf := hf.1 c_31
          refine g_sub [(0, .ref (B + 95)), (1, J v1_1), (2, J v2_17)] [0, 1, 2] rfl ?_
          exact hJ82 v2_17 hf h_v2_17
        · replace hf := hf.2 c_31
          refine g_aload_n hC 0 dX12_see_45 rfl rfl ?_
          refine g_aload_n hC 0 dX12_see_46 rfl rfl ?_
          refine g_getr hC okX12 sc95 0 (by decide) rfl wf_X12_7 dX12_see_47 ?_
          refine g_iload_n hC 3 dX12_see_50 rfl rfl ?_
          obtain ⟨q_19, hf⟩ := hf
          refine g_ialdk (v3_18.toNat) hC sc96 q_19.1 q_19.2 rfl dX12_see_51 ?_
          refine g_callVZ hC (sk := []) [J (M_2 96 (v3_18.toNat))] (c_X12_isReach l B D K (M_2 96 (v3_18.toNat)) (h_M_2 _ _) M_2 h_M_2 _ hf) yv_X12_isReach wm_X12_344 okX12.1 sc95 rfl ⟨Nat.le_of_ble_eq_true rfl, Nat.le_of_ble_eq_true rfl, Nat.le_of_ble_eq_true rfl, Nat.le_of_ble_eq_true rfl⟩ rfl (Nat.le_of_ble_eq_true rfl) dX12_see_52 ?_
          rintro r_20 M_21 h_r_20 - ⟨rfl, hf⟩
          refine g_if_eq hC 74 (zi_ h_r_20) dX12_see_55 rfl (fun c_30 => ?_) (fun c_30 => ?_)
          · replace hf := hf.1 c_30
            refine g_iconst hC dX12_see_74 ?_
            refine g_istore_n hC [(2, J 0), (0, .ref (B + 95)), (1, J v1_1), (3, J v3_18)] dX12_see_75 rfl (by decide) rfl ?_
            obtain ⟨q_23, hf⟩ := hf
            obtain ⟨v3_22, e_v3_22⟩ : ∃ z : Int, z = v3_18 + 2 := ⟨_, rfl⟩
            replace hf := hf v3_22 e_v3_22
            have h_v3_22 : inR v3_22 := by rw [e_v3_22]; exact q_23
            refine g_iincv hC 3 e_v3_22 [(3, J v3_22), (2, J 0), (0, .ref (B + 95)), (1, J v1_1)] dX12_see_76 rfl (by decide) rfl ?_
            refine g_goto hC 36 dX12_see_79 rfl ?_
            refine g_sub [(0, .ref (B + 95)), (1, J v1_1), (2, J 0), (3, J v3_22)] [2, 3, 1, 0] rfl ?_
            exact ih36 0 v3_22 hf (Or.inl rfl) h_v3_22
          · replace hf := hf.2 c_30
            refine g_aload_n hC 0 dX12_see_58 rfl rfl ?_
            refine g_getr hC okX12 sc95 0 (by decide) rfl wf_X12_7 dX12_see_59 ?_
            refine g_iload_n hC 3 dX12_see_62 rfl rfl ?_
            refine g_iconst hC dX12_see_63 ?_
            refine g_iadd hC dX12_see_64 ?_
            obtain ⟨q_24, hf⟩ := hf
            refine g_ialdk ((v3_18 + 1).toNat) hC sc96 q_24.1 q_24.2 rfl dX12_see_65 ?_
            refine g_iconst hC dX12_see_66 ?_
            refine g_icmp_gt hC 74 (h_M_2 _ _) (by unfold inR; omega) dX12_see_67 rfl (fun c_29 => ?_) (fun c_29 => ?_)
            · replace hf := hf.1 c_29
              refine g_iconst hC dX12_see_74 ?_
              refine g_istore_n hC [(2, J 0), (0, .ref (B + 95)), (1, J v1_1), (3, J v3_18)] dX12_see_75 rfl (by decide) rfl ?_
              obtain ⟨q_26, hf⟩ := hf
              obtain ⟨v3_25, e_v3_25⟩ : ∃ z : Int, z = v3_18 + 2 := ⟨_, rfl⟩
              replace hf := hf v3_25 e_v3_25
              have h_v3_25 : inR v3_25 := by rw [e_v3_25]; exact q_26
              refine g_iincv hC 3 e_v3_25 [(3, J v3_25), (2, J 0), (0, .ref (B + 95)), (1, J v1_1)] dX12_see_76 rfl (by decide) rfl ?_
              refine g_goto hC 36 dX12_see_79 rfl ?_
              refine g_sub [(0, .ref (B + 95)), (1, J v1_1), (2, J 0), (3, J v3_25)] [2, 3, 1, 0] rfl ?_
              exact ih36 0 v3_25 hf (Or.inl rfl) h_v3_25
            · replace hf := hf.2 c_29
              refine g_iconst hC dX12_see_70 ?_
              refine g_goto hC 75 dX12_see_71 rfl ?_
              refine g_istore_n hC [(2, J 1), (0, .ref (B + 95)), (1, J v1_1), (3, J v3_18)] dX12_see_75 rfl (by decide) rfl ?_
              obtain ⟨q_28, hf⟩ := hf
              obtain ⟨v3_27, e_v3_27⟩ : ∃ z : Int, z = v3_18 + 2 := ⟨_, rfl⟩
              replace hf := hf v3_27 e_v3_27
              have h_v3_27 : inR v3_27 := by rw [e_v3_27]; exact q_28
              refine g_iincv hC 3 e_v3_27 [(3, J v3_27), (2, J 1), (0, .ref (B + 95)), (1, J v1_1)] dX12_see_76 rfl (by decide) rfl ?_
              refine g_goto hC 36 dX12_see_79 rfl ?_
              refine g_sub [(0, .ref (B + 95)), (1, J v1_1), (2, J 1), (3, J v3_27)] [2, 3, 1, 0] rfl ?_
              exact ih36 1 v3_27 hf (Or.inr rfl) h_v3_27
  · intro J33 hJ33 hf
    refine g_if_le hC 32 h_v1_1 dX12_see_11 rfl (fun c_35 => ?_) (fun c_35 => ?_)
    · replace hf := hf.1 c_35
      refine g_iconst hC dX12_see_32 ?_
      refine g_sub [(0, .ref (B + 95)), (1, J v1_1)] [1, 0] rfl ?_
      exact hJ33 0 hf (Or.inl rfl)
    · replace hf := hf.2 c_35
      refine g_iload_n hC 0 dX12_see_14 rfl rfl ?_
      refine g_iconst hC dX12_see_15 ?_
      refine g_irem hC h_v1_1 (by unfold inR; omega) (by decide) dX12_see_16 ?_
      refine g_if_ne hC 32 (tmod_in h_v1_1 (by decide)) dX12_see_17 rfl (fun c_34 => ?_) (fun c_34 => ?_)
      · replace hf := hf.1 c_34
        refine g_iconst hC dX12_see_32 ?_
        refine g_sub [(0, .ref (B + 95)), (1, J v1_1)] [1, 0] rfl ?_
        exact hJ33 0 hf (Or.inl rfl)
      · replace hf := hf.2 c_34
        refine g_iload_n hC 0 dX12_see_20 rfl rfl ?_
        refine g_iconst hC dX12_see_21 ?_
        refine g_idiv hC h_v1_1 (by unfold inR; omega) (by decide) dX12_see_22 ?_
        refine g_bipush hC dX12_see_23 (by decide) ?_
        refine g_icmp_gt hC 32 (tdiv_in h_v1_1 (by decide)) (by unfold inR; omega) dX12_see_25 rfl (fun c_33 => ?_) (fun c_33 => ?_)
        · replace hf := hf.1 c_33
          refine g_iconst hC dX12_see_32 ?_
          refine g_sub [(0, .ref (B + 95)), (1, J v1_1)] [1, 0] rfl ?_
          exact hJ33 0 hf (Or.inl rfl)
        · replace hf := hf.2 c_33
          refine g_iconst hC dX12_see_28 ?_
          refine g_goto hC 33 dX12_see_29 rfl ?_
          refine g_sub [(0, .ref (B + 95)), (1, J v1_1)] [1, 0] rfl ?_
          exact hJ33 1 hf (Or.inr rfl)
